import java.util.function.Supplier;

/** One method for each promise of the document: ordinary inputs, the edges it names, wrong inputs. */
public final class PromisesTest {
    private static final int NULL = -11, INDEX = -12, CAST = -13, STORE = -14, SIZE = -15;
    private static final int LEAST = Integer.MIN_VALUE;
    private static int promise;
    private static int asked;
    private static int wrong;

    public static void main(String[] args) {
        newObject();
        grid();
        wish();
        length();
        sides();
        fault();
        lots();
        read();
        cell();
        whole();
        mend();
        mendOfLikeOnes();
        moves();
        seat();
        column();
        seats();
        broken();
        witness();
        core();
        critical();
        least();
        chains();
        cut();
        keep();
        go();
        differ();
        drop();
        sheet();
        lose();
        lay();
        get();
        copy();
        write();
        count();
        digest();
        System.out.println(asked + " answers of the promises, " + wrong + " wrong");
        if (wrong != 0) {
            System.exit(1);
        }
    }

    private static void due(String call, long got, long want) {
        asked++;
        if (got != want) {
            wrong++;
            System.out.println("promise " + promise + ": " + call + " answered " + got + ", due is " + want);
        }
    }

    /** FAULTY CELLS as '#', others as '.', a text for each ROW. */
    private static GridMender drawn(int wish, int length, String... rows) {
        GridMender m = new GridMender();
        m.grid(rows.length, rows[0].length());
        m.wish(wish);
        m.length(length);
        for (int y = 0; y < rows.length; y++) {
            for (int x = 0; x < rows[y].length(); x++) {
                if (rows[y].charAt(x) == '#') {
                    m.fault(x, y);
                }
            }
        }
        return m;
    }

    private static void dueRow(GridMender m, int y, int... columns) {
        for (int j = 0; j < columns.length; j++) {
            due("column(" + y + ", " + j + ")", m.column(y, j), columns[j]);
        }
    }

    private static void newObject() {
        promise = 1;
        GridMender m = new GridMender();
        due("count(0)", m.count(0), 30);
        due("cell(5, 4, 0)", m.cell(5, 4, 0), 0);
        due("cell(6, 4, 0)", m.cell(6, 4, 0), -2);
        due("cell(5, 5, 0)", m.cell(5, 5, 0), -2);
        due("count(1)", m.count(1), 0);
        due("count(2)", m.count(2), 1);
        for (int what = 3; what <= 6; what++) {
            due("count(" + what + ")", m.count(what), 0);
        }
        due("count(8)", m.count(8), 0);
        due("broken()", m.broken(), -1);
        for (int s = 0; s < 6; s++) {
            due("drop", m.drop(s), NULL);
        }
        for (int s = 0; s < 4; s++) {
            due("lose", m.lose(s), NULL);
        }
        due("wish(4)", m.wish(4), 4);
        due("length(1)", m.length(1), 1);
        due("sides(4)", m.sides(4), 4);
        GridMender other = new GridMender();
        other.fault(0, 0);
        due("count(1) of the first object", m.count(1), 0);
    }

    private static void grid() {
        promise = 2;
        GridMender m = new GridMender();
        m.lots(1, 16);
        m.length(2);
        m.sides(9);
        due("grid(1, 1)", m.grid(1, 1), 1);
        due("count(0)", m.count(0), 1);
        due("count(1)", m.count(1), 0);
        due("wish(1), WISH was cut to W", m.wish(1), 1);
        due("length(2) stays", m.length(2), 2);
        due("sides(9) stays", m.sides(9), 9);
        due("grid(7, 7)", m.grid(7, 7), 49);
        due("WISH does not grow again", m.wish(1), 1);
        due("grid(7, 1)", m.grid(7, 1), 7);
        due("grid(1, 7)", m.grid(1, 7), 7);
        due("fault(6, 0)", m.fault(6, 0), 1);
        m.mend();
        int[][] bad = {{0, 3}, {3, 0}, {8, 3}, {3, 8}, {-1, 3}, {3, -1}, {LEAST, 1}, {1, Integer.MAX_VALUE}};
        for (int[] b : bad) {
            due("grid(" + b[0] + ", " + b[1] + ")", m.grid(b[0], b[1]), -2);
        }
        due("count(1) after BAD", m.count(1), 1);
        due("count(5) after BAD", m.count(5), 1);
        due("grid(1, 7) again", m.grid(1, 7), 7);
        due("count(5)", m.count(5), 0);
        due("count(1)", m.count(1), 0);
    }

    private static void wish() {
        promise = 3;
        GridMender m = new GridMender();
        due("wish(6)", m.wish(6), 4);
        due("wish(1)", m.wish(1), 6);
        m.fault(1, 1);
        m.mend();
        due("wish(0)", m.wish(0), -2);
        due("wish(7)", m.wish(7), -2);
        due("wish(-1)", m.wish(-1), -2);
        due("count(5) after BAD", m.count(5), 1);
        due("wish(1), the same", m.wish(1), 1);
        due("count(5)", m.count(5), 0);
        due("CELLS stay", m.count(1), 1);
    }

    private static void length() {
        promise = 4;
        GridMender m = new GridMender();
        m.mend();
        due("length(0)", m.length(0), 1);
        due("length(3)", m.length(3), 0);
        due("length(4)", m.length(4), -2);
        due("length(-1)", m.length(-1), -2);
        due("length(2)", m.length(2), 3);
        due("count(5): it stays LAID", m.count(5), 1);
        due("seats(0)", m.seats(0), 15);
    }

    private static void sides() {
        promise = 5;
        GridMender m = drawn(1, 1, "...", ".#.", "...");
        due("sides(0)", m.sides(0), 4);
        due("sides(15)", m.sides(15), 0);
        due("sides(16)", m.sides(16), -2);
        due("sides(-1)", m.sides(-1), -2);
        due("sides(1)", m.sides(1), 15);
        due("chains()", m.chains(), 1);
        String[] rows = {"#..", "###", "###"};
        int[] open = {1, 2, 4, 8};
        int[] chains = {3, 3, 3, 3};
        long[] cuts = {1 + 8 + 64, 1 + 16 + 32, 2 + 32 + 256, 64 + 128 + 256};
        for (int i = 0; i < open.length; i++) {
            GridMender c = drawn(1, 1, rows);
            c.sides(open[i]);
            due("chains() with sides " + open[i], c.chains(), chains[i]);
            due("cut() with sides " + open[i], c.cut(), cuts[i]);
        }
    }

    private static void fault() {
        promise = 6;
        GridMender m = new GridMender();
        m.mend();
        due("fault(0, 0)", m.fault(0, 0), 1);
        due("fault(5, 4)", m.fault(5, 4), 2);
        due("cell(5, 4, 0)", m.cell(5, 4, 0), 1);
        due("fault(0, 0)", m.fault(0, 0), 1);
        due("cell(0, 0, 0)", m.cell(0, 0, 0), 0);
        int[][] bad = {{6, 0}, {0, 5}, {-1, 0}, {0, -1}, {LEAST, LEAST}};
        for (int[] b : bad) {
            due("fault(" + b[0] + ", " + b[1] + ")", m.fault(b[0], b[1]), -2);
        }
        due("count(1)", m.count(1), 1);
        due("count(5): it stays LAID", m.count(5), 1);
    }

    private static void lots() {
        promise = 7;
        GridMender m = new GridMender();
        due("lots(0, 17)", m.lots(0, 17), -2);
        due("lots(0, -1)", m.lots(0, -1), -2);
        due("lots(77, 16)", m.lots(77, 16), 30);
        due("lots(77, -1)", m.lots(77, -1), -2);
        due("count(1) after BAD", m.count(1), 30);
        due("lots(77, 0)", m.lots(77, 0), 0);
        int[] seeds = {0, 1, -1, 12345, LEAST, Integer.MAX_VALUE};
        for (int seed : seeds) {
            long lot = seed;
            int many = 0;
            due("lots", m.lots(seed, 5) >= 0 ? 1 : 0, 1);
            for (int number = 0; number < 30; number++) {
                lot = (int) (1103515245L * lot + 12345L);
                long upper = (lot & 0xFFFFFFFFL) / 65536;
                int faulty = upper % 16 < 5 ? 1 : 0;
                many += faulty;
                due("cell by lots(" + seed + ", 5)", m.cell(number % 6, number / 6, 0), faulty);
            }
            due("count(1)", m.count(1), many);
        }
        m.lots(1, 0);
        m.mend();
        m.lots(1, 8);
        due("count(5): it stays LAID", m.count(5), 1);
    }

    private static void read() {
        promise = 8;
        GridMender m = new GridMender();
        m.fault(5, 0);
        m.fault(0, 0);
        m.sheet(0, 2, 3);
        m.lay(0, 2, 1, -7);
        due("read(0, 0)", m.read(0, 0), 3);
        int[] want = {0, 1, 0, 0, 0, 1};
        for (int x = 0; x < 6; x++) {
            due("cell(" + x + ", 0, 0)", m.cell(x, 0, 0), want[x]);
        }
        m.sheet(1, 1, 60);
        m.lay(1, 1, 5, 256);
        m.lay(1, 1, 6, 1);
        due("read(4, 1) of 60 items", m.read(4, 1), 6);
        due("cell(5, 4, 0)", m.cell(5, 4, 0), 1);
        due("count(1)", m.count(1), 3);
        m.sheet(2, 0, 0);
        due("read(0, 2) of none", m.read(0, 2), 0);
        due("count(1)", m.count(1), 3);
        due("read(5, 0)", m.read(5, 0), -2);
        due("read(-1, 0)", m.read(-1, 0), -2);
        due("read(0, 4)", m.read(0, 4), -2);
        due("read(0, -1)", m.read(0, -1), -2);
        due("read(5, 3): BAD is ahead of NULL", m.read(5, 3), -2);
        due("count(8)", m.count(8), 0);
        due("read(0, 3)", m.read(0, 3), NULL);
        due("count(8)", m.count(8), 1);
        due("count(1)", m.count(1), 3);
    }

    private static void cell() {
        promise = 9;
        GridMender m = drawn(2, 0, "..#", "...");
        due("cell(0, 0, 1), nothing LAID", m.cell(0, 0, 1), -1);
        m.mend();
        int[][][] want = {
            {{0, 0, 1, 0, 0}, {0, 1, 1, 0, 0}, {1, -1, 0, 0, 1}},
            {{0, 0, 1, 0, 0}, {0, 1, 1, 0, 0}, {0, -1, 0, 0, 0}}};
        for (int y = 0; y < 2; y++) {
            for (int x = 0; x < 3; x++) {
                for (int what = 0; what < 5; what++) {
                    due("cell(" + x + ", " + y + ", " + what + ")", m.cell(x, y, what), want[y][x][what]);
                }
            }
        }
        m.fault(0, 1);
        due("cell(2, 0, 3)", m.cell(2, 0, 3), 1);
        due("cell(0, 1, 3)", m.cell(0, 1, 3), 1);
        due("cell(0, 0, 3)", m.cell(0, 0, 3), 0);
        due("cell(0, 0, 2): not WHOLE", m.cell(0, 0, 2), 0);
        int[][] bad = {{3, 0, 0}, {0, 2, 0}, {-1, 0, 1}, {0, -1, 2}, {0, 0, 5}, {0, 0, -1}};
        for (int[] b : bad) {
            due("cell(" + b[0] + ", " + b[1] + ", " + b[2] + ")", m.cell(b[0], b[1], b[2]), -2);
        }
    }

    private static void whole() {
        promise = 10;
        due("whole() of GOOD CELLS", drawn(7, 0, ".......", ".......").whole(), 1);
        due("whole(), WISH is W", drawn(7, 3, ".......", "...#...").whole(), 0);
        due("whole() by a bypass", drawn(3, 1, ".#..").whole(), 1);
        due("whole() without", drawn(3, 0, ".#..").whole(), 0);
        due("whole(), wire too long", drawn(2, 1, ".##.").whole(), 0);
        due("whole(), wire long enough", drawn(2, 2, ".##.").whole(), 1);
        due("whole(), rows differ by 1", drawn(2, 0, "#..", "..#").whole(), 0);
        due("whole(), rows may differ by 1", drawn(2, 1, "#..", "..#").whole(), 1);
        due("whole(), rows differ by 2", drawn(1, 1, "##.", ".##").whole(), 0);
        due("whole(), rows may differ by 2", drawn(1, 2, "##.", ".##").whole(), 1);
        due("whole() with a row between", drawn(1, 1, "##.", "#.#", ".##").whole(), 1);
        due("whole() of 1 by 1", drawn(1, 0, "#").whole(), 0);
    }

    private static void mend() {
        promise = 11;
        GridMender m = drawn(2, 1, "#...", "....");
        due("mend() from COLUMN j", m.mend(), 2);
        dueRow(m, 0, 1, 2);
        dueRow(m, 1, 0, 1);
        due("mend() again", m.mend(), 0);
        m.length(0);
        due("mend() with length 0", m.mend(), 2);
        dueRow(m, 0, 1, 2);
        dueRow(m, 1, 1, 2);
        for (int x = 1; x < 4; x++) {
            m.fault(x, 0);
        }
        due("mend(), not WHOLE", m.mend(), -3);
        dueRow(m, 1, 1, 2);
        due("count(3) is not changed by NOT", m.count(3), 4);
        due("mend() of 1 by 1", drawn(1, 0, ".").mend(), 0);
        due("mend() of 7 by 7", drawn(1, 0, "######.", "######.", "######.", "######.", "######.", "######.",
            "######.").mend(), 7);
    }

    private static void mendOfLikeOnes() {
        GridMender m = drawn(1, 3, "#...", "....");
        due("mend() of like ones", m.mend(), 1);
        dueRow(m, 0, 1);
        GridMender two = drawn(2, 1, ".#.....");
        due("mend() to 0 2", two.mend(), 1);
        dueRow(two, 0, 0, 2);
        GridMender late = drawn(1, 1, "....", "#...", "#...");
        due("mend(), two ROWS moved", late.mend(), 2);
        dueRow(late, 0, 0);
        dueRow(late, 1, 1);
        dueRow(late, 2, 1);
        GridMender back = drawn(1, 2, ".......", ".......");
        back.mend();
        back.seat(0, 8);
        back.seat(1, 64);
        due("moves(): either ROW may move", back.moves(), 1);
        due("mend(): ROW 0 as the lesser", back.mend(), 1);
        dueRow(back, 0, 3);
        dueRow(back, 1, 1);
    }

    private static void moves() {
        promise = 12;
        GridMender m = drawn(2, 1, "#...", "....");
        due("moves()", m.moves(), 2);
        due("moves() lays nothing", m.count(5), 0);
        due("count(3)", m.count(3), 0);
        m.mend();
        due("moves() after mend()", m.moves(), 0);
        m.seat(1, 12);
        due("moves() after seat()", m.moves(), 0);
        m.length(0);
        due("moves() with length 0", m.moves(), 2);
        m.length(1);
        m.fault(2, 1);
        due("moves() after fault()", m.moves(), 1);
        m.fault(1, 0);
        m.fault(2, 0);
        due("moves(), not WHOLE", m.moves(), -1);
    }

    private static void seat() {
        promise = 13;
        GridMender m = drawn(2, 0, "....", "....");
        due("seat(0, 3), nothing LAID", m.seat(0, 3), -3);
        due("seat(2, 3), nothing LAID", m.seat(2, 3), -2);
        due("seat(0, 7), nothing LAID", m.seat(0, 7), -2);
        m.mend();
        due("seat(0, 3)", m.seat(0, 3), 0);
        due("seat(0, 6)", m.seat(0, 6), 2);
        due("seat(0, 10)", m.seat(0, 10), 1);
        due("seat(0, 9)", m.seat(0, 9), 1);
        m.fault(2, 1);
        due("seat(1, 12) on a FAULTY CELL", m.seat(1, 12), 2);
        int[][] bad = {{-1, 3}, {2, 3}, {0, 1}, {0, 7}, {0, 17}, {0, 48}, {0, 0}, {0, -1}, {0, LEAST | 1}};
        for (int[] b : bad) {
            due("seat(" + b[0] + ", " + b[1] + ")", m.seat(b[0], b[1]), -2);
        }
        dueRow(m, 0, 0, 3);
        dueRow(m, 1, 2, 3);
        GridMender one = drawn(1, 0, "....");
        one.mend();
        due("seat(0, 8), the last COLUMN", one.seat(0, 8), 1);
        due("seat(0, 16), one COLUMN too far", one.seat(0, 16), -2);
    }

    private static void column() {
        promise = 14;
        GridMender m = drawn(3, 1, "#.#..");
        due("column(0, 2), nothing LAID", m.column(0, 2), -1);
        due("column(0, 3), nothing LAID", m.column(0, 3), -2);
        m.mend();
        dueRow(m, 0, 1, 3, 4);
        int[][] bad = {{-1, 0}, {1, 0}, {0, -1}, {0, 3}, {0, LEAST}};
        for (int[] b : bad) {
            due("column(" + b[0] + ", " + b[1] + ")", m.column(b[0], b[1]), -2);
        }
    }

    private static void seats() {
        promise = 15;
        String all = ".......";
        int[] sums = {7, 6, 5, 4, 3, 2, 1};
        for (int wish = 1; wish <= 7; wish++) {
            due("seats(0), WISH " + wish + ", LENGTH 0", drawn(wish, 0, all).seats(0), sums[wish - 1]);
        }
        due("seats(0), WISH 2, LENGTH 1", drawn(2, 1, all).seats(0), 11);
        due("seats(0), WISH 2, LENGTH 2", drawn(2, 2, all).seats(0), 15);
        due("seats(0), WISH 2, LENGTH 3", drawn(2, 3, all).seats(0), 18);
        due("seats(0), WISH 3, LENGTH 3", drawn(3, 3, all).seats(0), 33);
        due("seats(0), WISH 4, LENGTH 3", drawn(4, 3, all).seats(0), 35);
        GridMender m = drawn(2, 1, "..#.#", "#####");
        due("seats(0)", m.seats(0), 2);
        due("seats(1)", m.seats(1), 0);
        due("seats(2)", m.seats(2), -2);
        due("seats(-1)", m.seats(-1), -2);
    }

    private static void broken() {
        promise = 16;
        GridMender m = drawn(2, 1, ".....", ".....", ".....");
        due("broken(), nothing LAID", m.broken(), -1);
        m.mend();
        due("broken()", m.broken(), 0);
        m.fault(0, 0);
        m.fault(4, 0);
        due("broken(), a TASK at a FAULTY CELL", m.broken(), 1);
        m.seat(1, 17);
        due("broken(), and a wide gap, and two far TASKS", m.broken(), 4);
        m.seat(1, 9);
        due("broken(), a gap of two", m.broken(), 4);
        m.length(2);
        due("broken() with longer wires", m.broken(), 1);
        m.length(0);
        due("broken() with none", m.broken(), 4);
        m.seat(2, 24);
        due("broken()", m.broken(), 1 + 1 + 1 + 2);
    }

    private static void witness() {
        promise = 17;
        GridMender good = drawn(1, 0, ".", ".");
        due("witness(0), WHOLE", good.witness(0), -1);
        due("witness(1), WHOLE", good.witness(1), -1);
        GridMender m = drawn(1, 1, ".##", "##.", "#.#", "..#", "###", "###");
        due("witness(0), one ROW is fewer", m.witness(0), 4);
        due("witness(1)", m.witness(1), 4);
        GridMender two = drawn(1, 0, ".#", "..", "#.", "#.", ".#", "#.");
        due("witness(0), the first of two ROWS", two.witness(0), 3);
        due("witness(1)", two.witness(1), 4);
        GridMender three = drawn(1, 1, ".###", "#.##", "##..", "###.", "##..", ".###", ".###");
        due("witness(0), the first of two", three.witness(0), 4);
        due("witness(1)", three.witness(1), 5);
        GridMender all = drawn(1, 1, ".#####", "...###", "#...##", "##...#", "##..##", "####.#", "#####.");
        due("whole()", all.whole(), 1);
        all.fault(4, 5);
        all.fault(5, 5);
        all.fault(3, 4);
        due("witness(0)", all.witness(0), 4);
        due("witness(1)", all.witness(1), 5);
        GridMender long3 = drawn(1, 1, "....", ".###", "....", "###.", "....");
        due("witness(0) of three ROWS", long3.witness(0), 1);
        due("witness(1) of three ROWS", long3.witness(1), 3);
        due("witness(2)", m.witness(2), -2);
        due("witness(-1)", m.witness(-1), -2);
        due("witness(2), WHOLE", good.witness(2), -2);
    }

    private static void core() {
        promise = 18;
        due("core(), WHOLE", drawn(2, 1, "#..").core(), 0);
        due("core() of 1 by 1", drawn(1, 0, "#").core(), 1);
        GridMender m = drawn(2, 0, "###", "###");
        due("core()", m.core(), 1);
        due("cell(1, 1, 3): the last that was needed", m.cell(1, 1, 3), 1);
        due("cell(2, 1, 3)", m.cell(2, 1, 3), 0);
        due("core() changes nothing", m.count(1), 6);
        GridMender far = drawn(1, 1, ".##", "##.");
        due("core() of two ROWS: any one more would do", far.core(), 4);
        GridMender some = drawn(1, 0, "#.#", ".##", "...");
        due("core(): the first that can be is left out", some.core(), 3);
        due("cell(0, 0, 3)", some.cell(0, 0, 3), 1);
        due("cell(2, 0, 3)", some.cell(2, 0, 3), 0);
        due("cell(1, 1, 3)", some.cell(1, 1, 3), 1);
        due("cell(2, 1, 3): with (2, 0) left out it is needed", some.cell(2, 1, 3), 1);
    }

    private static void critical() {
        promise = 19;
        due("critical(), not WHOLE", drawn(1, 0, "#").critical(), 0);
        due("critical() of 1 by 1", drawn(1, 0, ".").critical(), 1);
        due("critical(), WISH is W", drawn(3, 0, "...", "...").critical(), 6);
        GridMender m = drawn(2, 0, "..#", "...");
        due("critical()", m.critical(), 4);
        due("cell(2, 1, 2)", m.cell(2, 1, 2), 0);
        due("critical() of the middle", drawn(3, 0, "....").critical(), 2);
        due("critical() with spare CELLS", drawn(1, 1, "..", "..").critical(), 0);
        m.critical();
        due("critical() changes nothing", m.count(1), 1);
    }

    private static void least() {
        promise = 20;
        due("least(0) of GOOD CELLS", drawn(3, 3, "...", "...").least(0), 0);
        due("least(1) of GOOD CELLS", drawn(1, 0, "...", "...").least(1), 3);
        due("least(0), a wide gap", drawn(2, 0, ".#####.").least(0), 5);
        due("least(0), ROWS far off", drawn(1, 0, ".######", "######.").least(0), 6);
        due("least(1), ROWS far off", drawn(1, 3, ".######", "######.").least(1), -1);
        due("least(0), NONE", drawn(2, 0, ".######").least(0), -1);
        GridMender m = drawn(2, 1, ".#.#.#.");
        due("least(1)", m.least(1), 4);
        due("wish(2) stays", m.wish(2), 2);
        due("length(1) stays", m.length(1), 1);
        due("least(0)", m.least(0), 1);
        due("least(1) with length 0", drawn(2, 0, ".#.#.#.").least(1), 1);
        due("least(1), no GOOD CELL", drawn(1, 0, "#").least(1), -1);
        due("least(2)", m.least(2), -2);
        due("least(-1)", m.least(-1), -2);
    }

    private static void chains() {
        promise = 21;
        due("chains() of none FAULTY", drawn(1, 0, "..", "..").chains(), 0);
        due("chains() of 1 by 1", drawn(1, 0, "#").chains(), 1);
        due("chains() of a ROW: a FAULTY CELL is no way", drawn(1, 0, "##.").chains(), 1);
        GridMender m = drawn(1, 0, "#..", "#..", "#..");
        due("chains() to the right", m.chains(), 3);
        m.sides(0);
        due("chains() with no SIDE", m.chains(), 0);
        m.sides(8);
        due("chains() to the bottom", m.chains(), 3);
        GridMender walled = drawn(1, 0, "###", "###", "###");
        walled.sides(15);
        due("chains(), the middle is shut in", walled.chains(), 8);
        GridMender turned = drawn(1, 0, "#....", "#.###", "#....");
        due("chains(), each CELL of one alone", turned.chains(), 3);
        turned.fault(4, 0);
        due("chains()", turned.chains(), 3);
        GridMender corner = drawn(1, 0, "...", "##.");
        corner.sides(2);
        due("chains() up", corner.chains(), 2);
    }

    private static void cut() {
        promise = 22;
        GridMender none = drawn(1, 0, "..", "..");
        due("cut() of none FAULTY", none.cut(), 0L);
        GridMender m = drawn(1, 0, "#...");
        due("cut(): with the FAULTY CELL itself none is reached", m.cut(), 1L);
        m.sides(0);
        due("cut() with no SIDE", m.cut(), 0L);
        GridMender neck = drawn(1, 0, "##...", "##...");
        due("cut() at two", neck.cut(), (1L << 1) | (1L << 6));
        GridMender funnel = new GridMender();
        funnel.grid(3, 4);
        funnel.fault(0, 0);
        funnel.fault(0, 1);
        funnel.fault(0, 2);
        due("cut() of three", funnel.cut(), 1L | (1L << 4) | (1L << 8));
        GridMender pair = drawn(1, 0, "##..");
        due("chains() of a pair in a ROW", pair.chains(), 1);
        due("cut(): 1 alone leaves 0 reached, and so do 2, 3 with more", pair.cut(), 2L);
        GridMender big = new GridMender();
        big.grid(7, 7);
        big.lots(0, 16);
        due("cut() of 7 by 7", big.cut(), (1L << 6) | (1L << 13) | (1L << 20) | (1L << 27) | (1L << 34)
            | (1L << 41) | (1L << 48));
        due("cell(6, 6, 4)", big.cell(6, 6, 4), 1);
        due("cell(5, 6, 4)", big.cell(5, 6, 4), 0);
    }

    private static void keep() {
        promise = 23;
        GridMender m = new GridMender();
        due("keep(0), nothing LAID", m.keep(0), -3);
        due("count(8)", m.count(8), 0);
        due("keep(6), nothing LAID: INDEX is told first", m.keep(6), INDEX);
        due("count(8)", m.count(8), 2);
        m.mend();
        due("keep(-1)", m.keep(-1), INDEX);
        due("keep(0)", m.keep(0), 1);
        due("keep(5)", m.keep(5), 2);
        m.seat(0, 30);
        due("differ(5)", m.differ(5), 4);
        due("keep(5) again", m.keep(5), 2);
        due("differ(5)", m.differ(5), 0);
        due("differ(0)", m.differ(0), 4);
    }

    private static void go() {
        promise = 24;
        GridMender m = new GridMender();
        due("go(-1)", m.go(-1), INDEX);
        due("go(6)", m.go(6), INDEX);
        due("count(8)", m.count(8), 2);
        due("go(0)", m.go(0), NULL);
        due("count(8)", m.count(8), 1);
        m.mend();
        m.keep(0);
        m.seat(2, 60);
        m.fault(0, 0);
        m.fault(1, 4);
        due("go(0)", m.go(0), 2);
        dueRow(m, 2, 0, 1, 2, 3);
        m.wish(3);
        due("go(0), another WISH", m.go(0), -3);
        due("count(5)", m.count(5), 0);
        m.wish(4);
        due("go(0), nothing was LAID", m.go(0), 2);
        m.seat(0, 30);
        due("go(0): what is kept is not changed by seat()", m.go(0), 2);
        m.grid(6, 6);
        due("go(0), another H", m.go(0), -3);
        m.grid(5, 7);
        due("go(0), another W", m.go(0), -3);
        m.grid(5, 6);
        due("go(0), all as they were", m.go(0), 0);
        due("count(8)", m.count(8), 1);
    }

    private static void differ() {
        promise = 25;
        GridMender m = new GridMender();
        due("differ(-1)", m.differ(-1), INDEX);
        due("differ(6)", m.differ(6), INDEX);
        due("differ(5)", m.differ(5), NULL);
        due("count(8)", m.count(8), 1);
        m.mend();
        m.seat(1, 30);
        m.keep(5);
        due("differ(5)", m.differ(5), 0);
        m.seat(1, 29);
        due("differ(5)", m.differ(5), 1);
        m.wish(4);
        due("differ(5), nothing LAID", m.differ(5), 4);
        due("count(5)", m.count(5), 0);
        m.wish(1);
        due("differ(5), another WISH", m.differ(5), -3);
        due("count(8)", m.count(8), 1);
    }

    private static void drop() {
        promise = 26;
        GridMender m = new GridMender();
        m.mend();
        m.keep(1);
        m.keep(2);
        due("drop(6)", m.drop(6), INDEX);
        due("drop(-1)", m.drop(-1), INDEX);
        due("count(8)", m.count(8), 2);
        due("drop(0)", m.drop(0), NULL);
        due("count(8)", m.count(8), 1);
        m.grid(1, 1);
        due("drop(1), whatever the GRID", m.drop(1), 1);
        due("drop(2)", m.drop(2), 0);
        due("drop(2)", m.drop(2), NULL);
        due("count(4)", m.count(4), 0);
    }

    private static void sheet() {
        promise = 27;
        GridMender m = new GridMender();
        due("sheet(0, 0, 0)", m.sheet(0, 0, 0), 0);
        due("sheet(3, 2, 60)", m.sheet(3, 2, 60), 60);
        m.lay(3, 2, 59, 9);
        due("sheet(3, 2, 61)", m.sheet(3, 2, 61), -2);
        due("sheet(4, 2, 1)", m.sheet(4, 2, 1), -2);
        due("sheet(-1, 2, 1)", m.sheet(-1, 2, 1), -2);
        due("sheet(3, 3, 1)", m.sheet(3, 3, 1), -2);
        due("sheet(3, -1, 1)", m.sheet(3, -1, 1), -2);
        due("sheet(3, 3, -1): BAD is ahead of SIZE", m.sheet(3, 3, -1), -2);
        due("count(8)", m.count(8), 0);
        due("sheet(3, 1, -1)", m.sheet(3, 1, -1), SIZE);
        due("sheet(3, 1, LEAST)", m.sheet(3, 1, LEAST), SIZE);
        due("count(8)", m.count(8), 5);
        due("get(3, 2, 59)", m.get(3, 2, 59), 9);
        due("sheet(3, 2, 60) is new", m.sheet(3, 2, 60), 60);
        due("get(3, 2, 59)", m.get(3, 2, 59), 0);
    }

    private static void lose() {
        promise = 28;
        GridMender m = new GridMender();
        due("lose(4)", m.lose(4), -2);
        due("lose(-1)", m.lose(-1), -2);
        due("count(8)", m.count(8), 0);
        due("lose(0)", m.lose(0), NULL);
        due("count(8)", m.count(8), 1);
        m.sheet(0, 1, 0);
        m.sheet(1, 1, 60);
        due("lose(0) of none", m.lose(0), 0);
        due("lose(1)", m.lose(1), 60);
        due("lose(1)", m.lose(1), NULL);
        due("lay(1, 1, 0, 0)", m.lay(1, 1, 0, 0), NULL);
    }

    private static void lay() {
        promise = 29;
        GridMender m = new GridMender();
        m.sheet(0, 0, 2);
        m.sheet(1, 1, 2);
        m.sheet(2, 2, 2);
        due("lay(0, 0, 1, -3)", m.lay(0, 0, 1, -3), 1);
        due("get(0, 0, 1)", m.get(0, 0, 1), 1);
        due("lay(0, 0, 1, 4)", m.lay(0, 0, 1, 4), 1);
        due("get(0, 0, 1)", m.get(0, 0, 1), 0);
        due("lay(1, 1, 0, 65537)", m.lay(1, 1, 0, 65537), 1);
        due("get(1, 1, 0)", m.get(1, 1, 0), 1);
        due("lay(1, 1, 0, -2)", m.lay(1, 1, 0, -2), 1);
        due("get(1, 1, 0)", m.get(1, 1, 0), 65534);
        due("lay(2, 2, 0, -2)", m.lay(2, 2, 0, -2), 1);
        due("get(2, 2, 0)", m.get(2, 2, 0), -2);
        due("lay(4, 0, 0, 0)", m.lay(4, 0, 0, 0), -2);
        due("lay(-1, 0, 0, 0)", m.lay(-1, 0, 0, 0), -2);
        due("lay(0, 3, 0, 0)", m.lay(0, 3, 0, 0), -2);
        due("lay(0, -1, 0, 0)", m.lay(0, -1, 0, 0), -2);
        due("lay(3, 3, 0, 0): BAD is ahead of NULL", m.lay(3, 3, 0, 0), -2);
        due("count(8)", m.count(8), 0);
        due("lay(3, 0, 9, 0)", m.lay(3, 0, 9, 0), NULL);
        due("count(8)", m.count(8), 1);
        due("lay(2, 1, 9, 0): CAST is ahead of INDEX", m.lay(2, 1, 9, 0), CAST);
        due("count(8)", m.count(8), 3);
        due("lay(2, 2, 2, 0)", m.lay(2, 2, 2, 0), INDEX);
        due("lay(2, 2, -1, 0)", m.lay(2, 2, -1, 0), INDEX);
        due("count(8)", m.count(8), 2);
        due("get(2, 2, 0)", m.get(2, 2, 0), -2);
    }

    private static void get() {
        promise = 30;
        GridMender m = new GridMender();
        m.sheet(0, 2, 1);
        due("get(0, 2, 0)", m.get(0, 2, 0), 0);
        m.lay(0, 2, 0, LEAST);
        due("get(0, 2, 0)", m.get(0, 2, 0), LEAST);
        due("get(4, 2, 0)", m.get(4, 2, 0), LEAST);
        due("get(-1, 2, 0)", m.get(-1, 2, 0), LEAST);
        due("get(0, 3, 0)", m.get(0, 3, 0), LEAST);
        due("get(0, -1, 0)", m.get(0, -1, 0), LEAST);
        due("get(1, 3, 0)", m.get(1, 3, 0), LEAST);
        due("count(8) after BAD", m.count(8), 0);
        due("get(0, 2, 1)", m.get(0, 2, 1), LEAST);
        due("count(8)", m.count(8), 2);
        due("get(1, 2, 1)", m.get(1, 2, 1), LEAST);
        due("count(8)", m.count(8), 1);
        due("get(0, 0, 1)", m.get(0, 0, 1), LEAST);
        due("count(8)", m.count(8), 3);
        due("get(0, 2, -1)", m.get(0, 2, -1), LEAST);
        due("count(8)", m.count(8), 2);
    }

    private static void copy() {
        promise = 31;
        GridMender m = new GridMender();
        m.sheet(0, 2, 5);
        m.sheet(1, 2, 3);
        m.sheet(2, 1, 3);
        for (int i = 0; i < 5; i++) {
            m.lay(0, 2, i, i + 1);
        }
        due("copy(0, 0, 0, 1, 4) to itself", m.copy(0, 0, 0, 1, 4), 1);
        int[] after = {1, 1, 2, 3, 4};
        for (int i = 0; i < 5; i++) {
            due("get(0, 2, " + i + ")", m.get(0, 2, i), after[i]);
        }
        due("copy(0, 2, 1, 0, 3)", m.copy(0, 2, 1, 0, 3), 1);
        due("get(1, 2, 2)", m.get(1, 2, 2), 4);
        due("copy(0, 5, 1, 3, 0)", m.copy(0, 5, 1, 3, 0), 1);
        due("copy(4, 0, 1, 0, 1)", m.copy(4, 0, 1, 0, 1), -2);
        due("copy(0, 0, -1, 0, 1)", m.copy(0, 0, -1, 0, 1), -2);
        due("copy(3, 0, 4, 0, 1): BAD is ahead of NULL", m.copy(3, 0, 4, 0, 1), -2);
        due("count(8)", m.count(8), 0);
        due("copy(3, 0, 1, 0, 1)", m.copy(3, 0, 1, 0, 1), NULL);
        due("copy(1, 0, 3, 0, 1)", m.copy(1, 0, 3, 0, 1), NULL);
        due("copy(2, 0, 1, 0, -1): STORE is ahead of INDEX", m.copy(2, 0, 1, 0, -1), STORE);
        due("count(8)", m.count(8), 4);
        int big = Integer.MAX_VALUE;
        int[][] bad = {{-1, 0, 1}, {0, -1, 1}, {0, 0, -1}, {6, 0, 0}, {0, 4, 0}, {3, 0, 3}, {0, 1, 3},
            {1, 1, big}, {big, 0, 1}, {0, big, big}, {big, big, big}, {LEAST, 0, LEAST}};
        for (int[] b : bad) {
            due("copy(0, " + b[0] + ", 1, " + b[1] + ", " + b[2] + ")", m.copy(0, b[0], 1, b[1], b[2]), INDEX);
        }
        due("count(8)", m.count(8), 2);
        due("get(1, 2, 0)", m.get(1, 2, 0), 2);
    }

    private static void write() {
        promise = 32;
        GridMender m = drawn(3, 1, "#.#..", ".....");
        m.sheet(0, 2, 2);
        m.sheet(1, 0, 60);
        m.sheet(2, 1, 0);
        m.lay(0, 2, 1, 77);
        due("write(0, 0), nothing LAID", m.write(0, 0), 0);
        due("get(0, 2, 1)", m.get(0, 2, 1), 77);
        due("write(0, 3), nothing LAID: NULL all the same", m.write(0, 3), NULL);
        m.mend();
        due("write(0, 0)", m.write(0, 0), 2);
        due("get(0, 2, 0)", m.get(0, 2, 0), 1);
        due("get(0, 2, 1)", m.get(0, 2, 1), 3);
        m.lay(1, 0, 3, 1);
        due("write(0, 1) as truths", m.write(0, 1), 3);
        int[] truths = {1, 1, 0, 1};
        for (int i = 0; i < 4; i++) {
            due("get(1, 0, " + i + ")", m.get(1, 0, i), truths[i]);
        }
        due("write(0, 2) to none", m.write(0, 2), 0);
        due("write(2, 0)", m.write(2, 0), -2);
        due("write(-1, 0)", m.write(-1, 0), -2);
        due("write(0, 4)", m.write(0, 4), -2);
        due("write(0, -1)", m.write(0, -1), -2);
        due("write(2, 3): BAD is ahead of NULL", m.write(2, 3), -2);
        m.lay(0, 2, 9, 0);
        due("count(8)", m.count(8), 2);
        due("write(1, 3)", m.write(1, 3), NULL);
        due("count(8)", m.count(8), 1);
    }

    private static void count() {
        promise = 33;
        GridMender m = drawn(2, 1, "#...", "....");
        due("count(0)", m.count(0), 8);
        due("count(1)", m.count(1), 1);
        due("count(2)", m.count(2), 1);
        due("count(3)", m.count(3), 0);
        m.mend();
        m.fault(1, 0);
        due("mend()", m.mend(), 4);
        due("count(3): MOVES of both", m.count(3), 6);
        due("count(4)", m.count(4), 0);
        due("count(5)", m.count(5), 1);
        due("count(6)", m.count(6), m.chains());
        due("count(7)", m.count(7), 1 + 5);
        m.fault(3, 0);
        due("count(2)", m.count(2), 0);
        due("count(7)", m.count(7), 5);
        m.keep(3);
        due("count(4)", m.count(4), 1);
        m.grid(1, 1);
        due("count(3) stays", m.count(3), 6);
        due("count(4) stays", m.count(4), 1);
        due("count(9)", m.count(9), -2);
        due("count(-1)", m.count(-1), -2);
        due("count(8): BAD is no FINDING", m.count(8), 0);
    }

    private static void digest() {
        promise = 34;
        dueDigest("of a new object", GridMender::new);
        dueDigest("of faults", PromisesTest::faulted);
        dueDigest("with SLOTS", PromisesTest::slotted);
        dueDigest("not WHOLE", PromisesTest::hopeless);
        dueDigest("with SLOTS of another WISH", () -> {
            GridMender m = hopeless();
            m.wish(2);
            return m;
        });
        dueDigest("of 7 by 7", () -> {
            GridMender m = hopeless();
            m.grid(7, 7);
            m.sides(15);
            m.lots(99, 4);
            m.mend();
            return m;
        });
        GridMender m = slotted();
        long before = m.digest();
        m.go(9);
        due("digest() leaves the latest FINDING out", m.digest(), before);
        due("count(8): digest() makes no FINDING", m.count(8), 2);
    }

    private static GridMender faulted() {
        return drawn(3, 1, ".#...", "...#.", "#....");
    }

    private static GridMender slotted() {
        GridMender m = faulted();
        m.mend();
        m.keep(0);
        m.keep(4);
        m.seat(1, 22);
        m.keep(2);
        return m;
    }

    private static GridMender hopeless() {
        GridMender m = slotted();
        m.lots(4, 9);
        return m;
    }

    /** Of two objects made alike, since one would have more than the 512 calls of which the answers are told. */
    private static void dueDigest(String which, Supplier<GridMender> maker) {
        GridMender m = maker.get();
        long want = told(maker.get());
        due("digest() " + which, m.digest(), want);
        due("digest() " + which + " again", m.digest(), want);
    }

    /** The digest by the other calls, as the document tells its order. */
    private static long told(GridMender m) {
        long h = 17;
        for (int what = 0; what <= 7; what++) {
            h = h * 31 + m.count(what);
        }
        long[] single = {m.moves(), m.broken(), m.witness(0), m.witness(1), m.core(), m.critical(), m.least(0),
            m.least(1), m.cut()};
        for (long v : single) {
            h = h * 31 + v;
        }
        int width = 0;
        while (m.cell(width, 0, 0) >= 0) {
            width++;
        }
        int height = m.count(0) / width;
        for (int y = 0; y < height; y++) {
            h = h * 31 + m.seats(y);
            for (int j = 0; m.column(y, j) != GridMender.BAD; j++) {
                h = h * 31 + m.column(y, j);
            }
        }
        for (int number = 0; number < m.count(0); number++) {
            for (int what = 0; what <= 4; what++) {
                h = h * 31 + m.cell(number % width, number / width, what);
            }
        }
        for (int s = 0; s < 6; s++) {
            int differ = m.differ(s);
            if (differ != NULL) {
                h = h * 31 + differ;
            }
        }
        return h;
    }
}
