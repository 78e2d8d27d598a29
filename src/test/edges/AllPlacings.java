import java.util.ArrayList;
import java.util.Arrays;
import java.util.List;

/** Every PLACING of a small GRID, listed one by one, and MEND picked from these by the document's words. */
final class AllPlacings {
    private final boolean[][] faulty;
    /** Where TASKS are, or are taken to be. */
    private final int[][] now;
    private final int height;
    private final int width;
    private final int wish;
    private final int length;
    /** Of each PLACING the SEAT of each ROW as bits. */
    private final List<int[]> all = new ArrayList<>();

    AllPlacings(GridMender m, int height, int width, int wish, int length) {
        this.height = height;
        this.width = width;
        this.wish = wish;
        this.length = length;
        faulty = new boolean[height][width];
        now = new int[height][wish];
        for (int y = 0; y < height; y++) {
            for (int x = 0; x < width; x++) {
                faulty[y][x] = m.cell(x, y, 0) == 1;
            }
            for (int j = 0; j < wish; j++) {
                int column = m.column(y, j);
                now[y][j] = column == GridMender.NONE ? j : column;
            }
        }
        list(new int[height], 0);
    }

    /** MEND, or null. */
    int[] mend() {
        int[] best = null;
        for (int[] placing : all) {
            if (best == null || isBefore(placing, best)) {
                best = placing;
            }
        }
        return best;
    }

    /** Fewer MOVES; of like ones, the SEAT of ROW 0 the least as bits, of like ones of ROW 1, and so on. */
    private boolean isBefore(int[] placing, int[] other) {
        int moves = movesTo(placing);
        int otherMoves = movesTo(other);
        return moves != otherMoves ? moves < otherMoves : Arrays.compare(placing, other) < 0;
    }

    int movesTo(int[] placing) {
        int sum = 0;
        for (int y = 0; y < height; y++) {
            for (int j = 0; j < wish; j++) {
                sum += columns(placing[y])[j] == now[y][j] ? 0 : 1;
            }
        }
        return sum;
    }

    private void list(int[] seats, int y) {
        if (y == height) {
            all.add(seats.clone());
            return;
        }
        // From the greatest down, so that the order of the words is not the order of the list.
        for (int bits = (1 << width) - 1; bits >= 0; bits--) {
            if (fitsRow(bits, y) && (y == 0 || fitEachOther(seats[y - 1], bits))) {
                seats[y] = bits;
                list(seats, y + 1);
            }
        }
    }

    private boolean fitsRow(int bits, int y) {
        if (Integer.bitCount(bits) != wish) {
            return false;
        }
        int[] columns = columns(bits);
        for (int j = 0; j < wish; j++) {
            boolean isFar = j > 0 && columns[j] - columns[j - 1] - 1 > length;
            if (isFar || faulty[y][columns[j]]) {
                return false;
            }
        }
        return true;
    }

    private boolean fitEachOther(int above, int below) {
        for (int j = 0; j < wish; j++) {
            if (Math.abs(columns(above)[j] - columns(below)[j]) > length) {
                return false;
            }
        }
        return true;
    }

    private int[] columns(int bits) {
        int[] columns = new int[wish];
        int tasks = 0;
        for (int x = 0; x < width; x++) {
            if ((bits >> x & 1) == 1) {
                columns[tasks++] = x;
            }
        }
        return columns;
    }
}
