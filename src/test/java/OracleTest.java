import java.util.ArrayList;
import java.util.HashMap;
import java.util.List;
import java.util.Map;
import java.util.Random;

/**
 * Runs of calls, always the same ones, on a GridMender and on a slow model that is written straight from the
 * document's words and keeps nothing it has found: what the class remembers from call to call must not show.
 */
public final class OracleTest {
    private static final int RUNS = 700;
    private static final int CALLS = 120;
    private static int wrong;

    public static void main(String[] args) {
        for (int run = 0; run < RUNS && wrong < 20; run++) {
            play(run);
        }
        System.out.println(RUNS + " runs against the model, " + wrong + " wrong");
        if (wrong != 0) {
            System.exit(1);
        }
    }

    private static void play(int run) {
        Random random = new Random(run);
        GridMender x = new GridMender();
        Model m = new Model();
        StringBuilder told = new StringBuilder();
        int most = run % 3 == 0 ? 7 : 4;
        compare(run, told, "grid", x.grid(3, 4), m.grid(3, 4));
        for (int call = 0; call < CALLS && wrong < 20; call++) {
            act(run, random, x, m, told, most);
        }
        compare(run, told, "digest", x.digest(), m.digest());
    }

    private static void compare(int run, StringBuilder told, String call, long got, long want) {
        told.append(call).append(" = ").append(want).append("; ");
        if (got != want) {
            wrong++;
            System.out.println("run " + run + ": " + told + "answered " + got);
        }
    }

    private static int some(Random r, int below) {
        return r.nextInt(25) == 0 ? r.nextInt(4 * below) - 2 * below : r.nextInt(below);
    }

    private static void act(int run, Random r, GridMender x, Model m, StringBuilder told, int most) {
        int a = some(r, 7);
        int b = some(r, 7);
        int c = some(r, 7);
        switch (r.nextInt(36)) {
            case 0: {
                int h = 1 + some(r, most);
                int w = 1 + some(r, most);
                if (r.nextInt(3) == 0) {
                    compare(run, told, "grid(" + h + "," + w + ")", x.grid(h, w), m.grid(h, w));
                }
                break;
            }
            case 1: {
                int n = 1 + some(r, Math.max(1, m.w - 1));
                compare(run, told, "wish(" + n + ")", x.wish(n), m.wish(n));
                break;
            }
            case 2: {
                int n = some(r, 4);
                compare(run, told, "length(" + n + ")", x.length(n), m.length(n));
                break;
            }
            case 3: {
                int n = some(r, 16);
                compare(run, told, "sides(" + n + ")", x.sides(n), m.sides(n));
                break;
            }
            case 4: case 5: case 6: {
                int cx = some(r, m.w);
                int cy = some(r, m.h);
                compare(run, told, "fault(" + cx + "," + cy + ")", x.fault(cx, cy), m.fault(cx, cy));
                break;
            }
            case 7: {
                int seed = r.nextInt();
                int n = some(r, 6);
                compare(run, told, "lots(" + seed + "," + n + ")", x.lots(seed, n), m.lots(seed, n));
                break;
            }
            case 8: {
                int s = some(r, 4);
                compare(run, told, "read(" + a + "," + s + ")", x.read(a, s), m.read(a, s));
                break;
            }
            case 9: case 10: {
                int what = some(r, 5);
                int cx = some(r, m.w);
                int cy = some(r, m.h);
                compare(run, told, "cell(" + cx + "," + cy + "," + what + ")", x.cell(cx, cy, what), m.cell(cx, cy, what));
                break;
            }
            case 11:
                compare(run, told, "whole()", x.whole(), m.whole());
                break;
            case 12: case 13:
                compare(run, told, "mend()", x.mend(), m.mend());
                break;
            case 14:
                compare(run, told, "moves()", x.moves(), m.moves());
                break;
            case 15: case 16: {
                int bits = r.nextInt(1 << m.w);
                for (int i = 0; i < 60 && Integer.bitCount(bits) != m.wish; i++) {
                    bits = r.nextInt(1 << m.w);
                }
                int y = some(r, m.h);
                compare(run, told, "seat(" + y + "," + bits + ")", x.seat(y, bits), m.seat(y, bits));
                break;
            }
            case 17:
                compare(run, told, "column(" + a + "," + b + ")", x.column(a, b), m.column(a, b));
                break;
            case 18:
                compare(run, told, "seats(" + a + ")", x.seats(a), m.seats(a));
                break;
            case 19:
                compare(run, told, "broken()", x.broken(), m.broken());
                break;
            case 20: {
                int part = some(r, 2);
                compare(run, told, "witness(" + part + ")", x.witness(part), m.witness(part));
                break;
            }
            case 21:
                compare(run, told, "core()", x.core(), m.core().size());
                break;
            case 22:
                compare(run, told, "critical()", x.critical(), m.critical().size());
                break;
            case 23: {
                int what = some(r, 2);
                compare(run, told, "least(" + what + ")", x.least(what), m.least(what));
                break;
            }
            case 24:
                compare(run, told, "chains()", x.chains(), m.chains());
                break;
            case 25:
                compare(run, told, "cut()", x.cut(), m.cut());
                break;
            case 26: {
                int s = some(r, 6);
                compare(run, told, "keep(" + s + ")", x.keep(s), m.keep(s));
                break;
            }
            case 27: {
                int s = some(r, 6);
                compare(run, told, "go(" + s + ")", x.go(s), m.go(s));
                break;
            }
            case 28: {
                int s = some(r, 6);
                compare(run, told, "differ(" + s + ")", x.differ(s), m.differ(s));
                break;
            }
            case 29: {
                int s = some(r, 6);
                compare(run, told, "drop(" + s + ")", x.drop(s), m.drop(s));
                break;
            }
            case 30: {
                int s = some(r, 4);
                int form = some(r, 3);
                int n = some(r, r.nextInt(4) == 0 ? 61 : 8);
                compare(run, told, "sheet(" + s + "," + form + "," + n + ")", x.sheet(s, form, n), m.sheet(s, form, n));
                break;
            }
            case 31: {
                int s = some(r, 4);
                if (r.nextInt(3) == 0) {
                    compare(run, told, "lose(" + s + ")", x.lose(s), m.lose(s));
                }
                break;
            }
            case 32: {
                int s = some(r, 4);
                int form = s >= 0 && s < 4 && r.nextInt(4) > 0 ? m.formOf(s) : some(r, 3);
                int v = r.nextInt(2) == 0 ? r.nextInt() : r.nextInt(3);
                compare(run, told, "lay(" + s + "," + form + "," + a + "," + v + ")", x.lay(s, form, a, v), m.lay(s, form, a, v));
                compare(run, told, "get(" + s + "," + form + "," + b + ")", x.get(s, form, b), m.get(s, form, b));
                break;
            }
            case 33: {
                int s = some(r, 4);
                int t = some(r, 4);
                String call = "copy(" + s + "," + a + "," + t + "," + b + "," + c + ")";
                compare(run, told, call, x.copy(s, a, t, b, c), m.copy(s, a, t, b, c));
                break;
            }
            case 34: {
                int s = some(r, 4);
                compare(run, told, "write(" + a + "," + s + ")", x.write(a, s), m.write(a, s));
                break;
            }
            default: {
                int what = some(r, 9);
                compare(run, told, "count(" + what + ")", x.count(what), m.count(what));
                break;
            }
        }
    }

    /** The document, as slowly as it is told. */
    private static final class Model {
        static final int NONE = -1, BAD = -2, NOT = -3;
        int h = 5;
        int w = 6;
        int wish = 4;
        int length = 1;
        int sides = 4;
        boolean[][] faulty = new boolean[5][6];
        /** [ROW][TASK], the COLUMN; null: nothing is LAID. */
        int[][] laid;
        final int[][][] slots = new int[6][][];
        final int[] slotWidths = new int[6];
        final Object[] sheets = new Object[4];
        int mended;
        int finding;

        int find(int number) {
            finding = number;
            return -10 - number;
        }

        int grid(int nh, int nw) {
            if (nh < 1 || nh > 7 || nw < 1 || nw > 7) {
                return BAD;
            }
            h = nh;
            w = nw;
            wish = Math.min(wish, w);
            faulty = new boolean[h][w];
            laid = null;
            return h * w;
        }

        int wish(int n) {
            if (n < 1 || n > w) {
                return BAD;
            }
            int was = wish;
            wish = n;
            laid = null;
            return was;
        }

        int length(int n) {
            if (n < 0 || n > 3) {
                return BAD;
            }
            int was = length;
            length = n;
            return was;
        }

        int sides(int bits) {
            if (bits < 0 || bits > 15) {
                return BAD;
            }
            int was = sides;
            sides = bits;
            return was;
        }

        boolean isCell(int x, int y) {
            return x >= 0 && y >= 0 && x < w && y < h;
        }

        int fault(int x, int y) {
            if (!isCell(x, y)) {
                return BAD;
            }
            faulty[y][x] = !faulty[y][x];
            return faultyCells();
        }

        int faultyCells() {
            int n = 0;
            for (int c = 0; c < h * w; c++) {
                n += faulty[c / w][c % w] ? 1 : 0;
            }
            return n;
        }

        int lots(int seed, int n) {
            if (n < 0 || n > 16) {
                return BAD;
            }
            for (int c = 0; c < h * w; c++) {
                seed = seed * 1103515245 + 12345;
                faulty[c / w][c % w] = ((seed >> 16) & 0xFFFF) % 16 < n;
            }
            return faultyCells();
        }

        int sizeOf(int s) {
            return java.lang.reflect.Array.getLength(sheets[s]);
        }

        int formOf(int s) {
            return sheets[s] instanceof boolean[] ? 0 : sheets[s] instanceof char[] ? 1 : 2;
        }

        int item(int s, int i) {
            Object sheet = sheets[s];
            if (sheet instanceof boolean[] t) {
                return t[i] ? 1 : 0;
            }
            return sheet instanceof char[] t ? t[i] : ((int[]) sheet)[i];
        }

        void store(int s, int i, int v) {
            Object sheet = sheets[s];
            if (sheet instanceof boolean[] t) {
                t[i] = v % 2 != 0;
            } else if (sheet instanceof char[] t) {
                t[i] = (char) v;
            } else {
                ((int[]) sheet)[i] = v;
            }
        }

        int read(int y, int s) {
            if (y < 0 || y >= h || s < 0 || s > 3) {
                return BAD;
            }
            if (sheets[s] == null) {
                return find(1);
            }
            int n = 0;
            while (n < w && n < sizeOf(s)) {
                faulty[y][n] = item(s, n) != 0;
                n++;
            }
            return n;
        }

        int cell(int x, int y, int what) {
            if (!isCell(x, y) || what < 0 || what > 4) {
                return BAD;
            }
            int number = y * w + x;
            if (what == 0) {
                return faulty[y][x] ? 1 : 0;
            }
            if (what == 1) {
                for (int j = 0; laid != null && j < wish; j++) {
                    if (laid[y][j] == x) {
                        return j;
                    }
                }
                return NONE;
            }
            if (what == 4) {
                return (int) (cut() >> number & 1);
            }
            return (what == 2 ? critical() : core()).contains(number) ? 1 : 0;
        }

        /** All SEATS of a ROW that FIT it, in the order of their bits. */
        List<int[]> fitting(int y, int n, int reach) {
            List<int[]> all = new ArrayList<>();
            for (int bits = 0; bits < 1 << w; bits++) {
                if (Integer.bitCount(bits) == n) {
                    int[] seat = columns(bits, n);
                    boolean fits = true;
                    for (int j = 0; j < n; j++) {
                        fits &= !faulty[y][seat[j]];
                        fits &= j == 0 || seat[j] - seat[j - 1] - 1 <= reach;
                    }
                    if (fits) {
                        all.add(seat);
                    }
                }
            }
            return all;
        }

        static int[] columns(int bits, int n) {
            int[] seat = new int[n];
            int j = 0;
            for (int x = 0; x < 7; x++) {
                if ((bits & 1 << x) != 0) {
                    seat[j++] = x;
                }
            }
            return seat;
        }

        static boolean near(int[] a, int[] b, int reach) {
            for (int j = 0; j < a.length; j++) {
                if (Math.abs(a[j] - b[j]) > reach) {
                    return false;
                }
            }
            return true;
        }

        boolean placeable(int first, int last, int n, int reach) {
            List<int[]> reached = fitting(first, n, reach);
            for (int y = first + 1; y <= last; y++) {
                List<int[]> next = new ArrayList<>();
                for (int[] seat : fitting(y, n, reach)) {
                    if (reached.stream().anyMatch(above -> near(above, seat, reach))) {
                        next.add(seat);
                    }
                }
                reached = next;
            }
            return !reached.isEmpty();
        }

        int whole() {
            return placeable(0, h - 1, wish, length) ? 1 : 0;
        }

        int[] placeNow(int y) {
            return laid == null ? columns((1 << wish) - 1, wish) : laid[y];
        }

        static int movesOf(int[] from, int[] to) {
            int n = 0;
            for (int j = 0; j < from.length; j++) {
                n += from[j] == to[j] ? 0 : 1;
            }
            return n;
        }

        /** The best rest from ROW y on below a SEAT: MOVES first, then the SEATS; null, if there is none. */
        int[][] best(int y, int[] above, Map<String, int[][]> known) {
            if (y == h) {
                return new int[][] {{0}};
            }
            String key = y + ":" + (above == null ? "" : java.util.Arrays.toString(above));
            if (known.containsKey(key)) {
                return known.get(key);
            }
            int[][] best = null;
            for (int[] seat : fitting(y, wish, length)) {
                int[][] rest = above == null || near(above, seat, length) ? best(y + 1, seat, known) : null;
                if (rest != null) {
                    int moves = movesOf(placeNow(y), seat) + rest[0][0];
                    if (best == null || moves < best[0][0]) {
                        best = new int[rest.length + 1][];
                        best[0] = new int[] {moves};
                        best[1] = seat;
                        System.arraycopy(rest, 1, best, 2, rest.length - 1);
                    }
                }
            }
            known.put(key, best);
            return best;
        }

        int moves() {
            int[][] best = best(0, null, new HashMap<>());
            return best == null ? NONE : best[0][0];
        }

        int mend() {
            int[][] best = best(0, null, new HashMap<>());
            if (best == null) {
                return NOT;
            }
            laid = new int[h][];
            for (int y = 0; y < h; y++) {
                laid[y] = best[y + 1].clone();
            }
            mended += best[0][0];
            return best[0][0];
        }

        int seat(int y, int bits) {
            if (y < 0 || y >= h || bits < 0 || bits >= 1 << w || Integer.bitCount(bits) != wish) {
                return BAD;
            }
            if (laid == null) {
                return NOT;
            }
            int[] now = laid[y];
            laid[y] = columns(bits, wish);
            return movesOf(now, laid[y]);
        }

        int column(int y, int j) {
            if (y < 0 || y >= h || j < 0 || j >= wish) {
                return BAD;
            }
            return laid == null ? NONE : laid[y][j];
        }

        int seats(int y) {
            return y < 0 || y >= h ? BAD : fitting(y, wish, length).size();
        }

        int broken() {
            if (laid == null) {
                return NONE;
            }
            int n = 0;
            for (int y = 0; y < h; y++) {
                for (int j = 0; j < wish; j++) {
                    n += faulty[y][laid[y][j]] ? 1 : 0;
                    n += j + 1 < wish && laid[y][j + 1] - laid[y][j] > length + 1 ? 1 : 0;
                    n += y + 1 < h && Math.abs(laid[y][j] - laid[y + 1][j]) > length ? 1 : 0;
                }
            }
            return n;
        }

        int witness(int part) {
            if (part != 0 && part != 1) {
                return BAD;
            }
            for (int rows = 0; rows < h; rows++) {
                for (int first = 0; first + rows < h; first++) {
                    if (!placeable(first, first + rows, wish, length)) {
                        return part == 0 ? first : first + rows;
                    }
                }
            }
            return NONE;
        }

        List<Integer> core() {
            List<Integer> core = new ArrayList<>();
            if (whole() == 1) {
                return core;
            }
            boolean[][] asTold = faulty;
            faulty = new boolean[h][];
            for (int y = 0; y < h; y++) {
                faulty[y] = asTold[y].clone();
            }
            for (int c = 0; c < h * w; c++) {
                if (asTold[c / w][c % w]) {
                    faulty[c / w][c % w] = false;
                    if (whole() == 1) {
                        faulty[c / w][c % w] = true;
                        core.add(c);
                    }
                }
            }
            faulty = asTold;
            return core;
        }

        List<Integer> critical() {
            List<Integer> critical = new ArrayList<>();
            if (whole() == 0) {
                return critical;
            }
            for (int c = 0; c < h * w; c++) {
                if (!faulty[c / w][c % w]) {
                    faulty[c / w][c % w] = true;
                    if (whole() == 0) {
                        critical.add(c);
                    }
                    faulty[c / w][c % w] = false;
                }
            }
            return critical;
        }

        int least(int what) {
            if (what == 0) {
                for (int reach = 0; reach <= 6; reach++) {
                    if (placeable(0, h - 1, wish, reach)) {
                        return reach;
                    }
                }
                return NONE;
            }
            if (what == 1) {
                for (int n = w; n >= 1; n--) {
                    if (placeable(0, h - 1, n, length)) {
                        return n;
                    }
                }
                return NONE;
            }
            return BAD;
        }

        boolean isOpen(int c) {
            int x = c % w;
            int y = c / w;
            return (sides & 1) != 0 && x == 0 || (sides & 2) != 0 && y == 0
                || (sides & 4) != 0 && x == w - 1 || (sides & 8) != 0 && y == h - 1;
        }

        List<Integer> beside(int c) {
            List<Integer> all = new ArrayList<>();
            int[][] steps = {{1, 0}, {-1, 0}, {0, 1}, {0, -1}};
            for (int[] step : steps) {
                if (isCell(c % w + step[0], c / w + step[1])) {
                    all.add(c + step[0] + step[1] * w);
                }
            }
            return all;
        }

        /** What is reached without the CELLS of a set. */
        long reached(long without) {
            long seen = 0;
            List<Integer> waiting = new ArrayList<>();
            for (int c = 0; c < h * w; c++) {
                if (faulty[c / w][c % w] && (without >> c & 1) == 0) {
                    waiting.add(c);
                    seen |= 1L << c;
                }
            }
            while (!waiting.isEmpty()) {
                int c = waiting.remove(waiting.size() - 1);
                for (int d : beside(c)) {
                    if ((seen >> d & 1) == 0 && (without >> d & 1) == 0 && !faulty[d / w][d % w]) {
                        seen |= 1L << d;
                        waiting.add(d);
                    }
                }
            }
            return seen;
        }

        boolean leadsOut(long seen) {
            for (int c = 0; c < h * w; c++) {
                if ((seen >> c & 1) == 1 && isOpen(c)) {
                    return true;
                }
            }
            return false;
        }

        /** Up to 12 CELLS: the fewest CELLS that stop all CHAINS are as many as CHAINS (Menger), looked for one by one. */
        long cutBySets() {
            long best = 0;
            int fewest = Integer.MAX_VALUE;
            int many = Integer.MAX_VALUE;
            boolean alone = true;
            for (long set = 0; set < 1L << h * w; set++) {
                int size = Long.bitCount(set);
                if (size > many) {
                    continue;
                }
                long seen = reached(set);
                if (leadsOut(seen)) {
                    continue;
                }
                int count = Long.bitCount(seen);
                if (size < many || count < fewest) {
                    best = set;
                    many = size;
                    fewest = count;
                    alone = true;
                } else if (count == fewest) {
                    alone = false;
                }
            }
            if (!alone) {
                throw new IllegalStateException("two cuts are alike");
            }
            return best;
        }

        /** More CELLS: a flow over a table of all pairs of nodes; a CELL is of the CUT, if it is first met at it. */
        long cutByFlow() {
            int cells = h * w;
            int source = 2 * cells;
            int sink = source + 1;
            int[][] room = new int[sink + 1][sink + 1];
            for (int c = 0; c < cells; c++) {
                room[2 * c][2 * c + 1] = 1;
                room[source][2 * c] = faulty[c / w][c % w] ? 99 : 0;
                room[2 * c + 1][sink] = isOpen(c) ? 99 : 0;
                for (int d : beside(c)) {
                    room[2 * c + 1][2 * d] = faulty[d / w][d % w] ? 0 : 99;
                }
            }
            boolean[] seen = new boolean[sink + 1];
            while (push(room, source, sink, seen)) {
                seen = new boolean[sink + 1];
            }
            long set = 0;
            for (int c = 0; c < cells; c++) {
                if (seen[2 * c] && !seen[2 * c + 1]) {
                    set |= 1L << c;
                }
            }
            return set;
        }

        static boolean push(int[][] room, int at, int sink, boolean[] seen) {
            if (at == sink) {
                return true;
            }
            seen[at] = true;
            for (int next = 0; next <= sink; next++) {
                if (room[at][next] > 0 && !seen[next] && push(room, next, sink, seen)) {
                    room[at][next]--;
                    room[next][at]++;
                    return true;
                }
            }
            return false;
        }

        long cutKnown;
        String cutKey = "";

        long cut() {
            String key = h + " " + w + " " + sides + java.util.Arrays.deepToString(faulty);
            if (!key.equals(cutKey)) {
                cutKey = key;
                cutKnown = h * w <= 12 ? cutBySets() : cutByFlow();
            }
            return cutKnown;
        }

        int chains() {
            return Long.bitCount(cut());
        }

        boolean isLike(int s) {
            return slots[s].length == h && slotWidths[s] == w && slots[s][0].length == wish;
        }

        int filled() {
            int n = 0;
            for (int[][] slot : slots) {
                n += slot == null ? 0 : 1;
            }
            return n;
        }

        static int[][] copied(int[][] seats) {
            int[][] all = new int[seats.length][];
            for (int y = 0; y < all.length; y++) {
                all[y] = seats[y].clone();
            }
            return all;
        }

        int keep(int s) {
            if (s < 0 || s > 5) {
                return find(2);
            }
            if (laid == null) {
                return NOT;
            }
            slots[s] = copied(laid);
            slotWidths[s] = w;
            return filled();
        }

        int go(int s) {
            if (s < 0 || s > 5) {
                return find(2);
            }
            if (slots[s] == null) {
                return find(1);
            }
            if (!isLike(s)) {
                return NOT;
            }
            laid = copied(slots[s]);
            return broken();
        }

        int differ(int s) {
            if (s < 0 || s > 5) {
                return find(2);
            }
            if (slots[s] == null) {
                return find(1);
            }
            if (!isLike(s)) {
                return NOT;
            }
            int n = 0;
            for (int y = 0; y < h; y++) {
                n += movesOf(placeNow(y), slots[s][y]);
            }
            return n;
        }

        int drop(int s) {
            if (s < 0 || s > 5) {
                return find(2);
            }
            if (slots[s] == null) {
                return find(1);
            }
            slots[s] = null;
            return filled();
        }

        int sheet(int s, int form, int n) {
            if (s < 0 || s > 3 || form < 0 || form > 2 || n > 60) {
                return BAD;
            }
            if (n < 0) {
                return find(5);
            }
            sheets[s] = form == 0 ? new boolean[n] : form == 1 ? new char[n] : new int[n];
            return n;
        }

        int lose(int s) {
            if (s < 0 || s > 3) {
                return BAD;
            }
            if (sheets[s] == null) {
                return find(1);
            }
            int n = sizeOf(s);
            sheets[s] = null;
            return n;
        }

        int lay(int s, int form, int i, int v) {
            if (s < 0 || s > 3 || form < 0 || form > 2) {
                return BAD;
            }
            if (sheets[s] == null) {
                return find(1);
            }
            if (formOf(s) != form) {
                return find(3);
            }
            if (i < 0 || i >= sizeOf(s)) {
                return find(2);
            }
            store(s, i, v);
            return 1;
        }

        int get(int s, int form, int i) {
            if (s < 0 || s > 3 || form < 0 || form > 2) {
                return Integer.MIN_VALUE;
            }
            if (sheets[s] == null || formOf(s) != form || i < 0 || i >= sizeOf(s)) {
                find(sheets[s] == null ? 1 : formOf(s) != form ? 3 : 2);
                return Integer.MIN_VALUE;
            }
            return item(s, i);
        }

        /** By the machine's own rule for rows of one kind. */
        int copy(int s, int i, int t, int j, int n) {
            if (s < 0 || s > 3 || t < 0 || t > 3) {
                return BAD;
            }
            try {
                System.arraycopy(sheets[s], i, sheets[t], j, n);
                return 1;
            } catch (NullPointerException e) {
                return find(1);
            } catch (ArrayStoreException e) {
                return find(4);
            } catch (IndexOutOfBoundsException e) {
                return find(2);
            }
        }

        int write(int y, int s) {
            if (y < 0 || y >= h || s < 0 || s > 3) {
                return BAD;
            }
            if (sheets[s] == null) {
                return find(1);
            }
            int n = 0;
            while (laid != null && n < wish && n < sizeOf(s)) {
                store(s, n, laid[y][n]);
                n++;
            }
            return n;
        }

        int count(int what) {
            if (what < 0 || what > 8) {
                return BAD;
            }
            int sum = 0;
            for (int y = 0; y < h; y++) {
                sum += seats(y);
            }
            int[] all = {h * w, faultyCells(), whole(), mended, filled(), laid == null ? 0 : 1, chains(), sum, finding};
            return all[what];
        }

        long digest() {
            List<Long> all = new ArrayList<>();
            for (int what = 0; what < 8; what++) {
                all.add((long) count(what));
            }
            int[] next = {moves(), broken(), witness(0), witness(1), core().size(), critical().size(), least(0), least(1)};
            for (int v : next) {
                all.add((long) v);
            }
            all.add(cut());
            for (int y = 0; y < h; y++) {
                all.add((long) seats(y));
                for (int j = 0; j < wish; j++) {
                    all.add((long) column(y, j));
                }
            }
            for (int c = 0; c < h * w; c++) {
                for (int what = 0; what < 5; what++) {
                    all.add((long) cell(c % w, c / w, what));
                }
            }
            for (int s = 0; s < 6; s++) {
                if (slots[s] != null) {
                    all.add((long) differ(s));
                }
            }
            long sum = 17;
            for (long v : all) {
                sum = 31 * sum + v;
            }
            return sum;
        }
    }
}
