/** Promises 1 to 9: the grid. */
final class GridEdges extends Told {
    static void run() {
        newObject();
        grid();
        wish();
        length();
        sides();
        fault();
        lots();
        read();
        cell();
    }

    private static void newObject() {
        sentence(1, "H 5, W 6,", () -> {
            due("H", Twins.heightOf(new GridMender()), 5);
            due("W", Twins.widthOf(new GridMender()), 6);
            due("count(0)", new GridMender().count(0), 30);
        });
        sentence(1, "all CELLS GOOD,", () -> {
            due("count(1)", new GridMender().count(1), 0);
            dueCells(new GridMender(), "......", "......", "......", "......", "......");
        });
        sentence(1, "WISH 4,", () -> due("wish(1)", new GridMender().wish(1), 4));
        sentence(1, "LENGTH 1,", () -> due("length(0)", new GridMender().length(0), 1));
        sentence(1, "SIDES 4;", () -> due("sides(0)", new GridMender().sides(0), 4));
        sentence(1, "nothing is LAID;", () -> {
            GridMender m = new GridMender();
            due("count(5)", m.count(5), 0);
            due("broken()", m.broken(), NONE);
            due("column(0, 0)", m.column(0, 0), NONE);
            due("cell(0, 0, 1)", m.cell(0, 0, 1), NONE);
            due("keep(0)", m.keep(0), NOT);
            due("seat(0, 15)", m.seat(0, 15), NOT);
        });
        sentence(1, "SLOTS are EMPTY,", () -> {
            GridMender m = new GridMender();
            due("count(4)", m.count(4), 0);
            for (int s = 0; s < 6; s++) {
                due("go(" + s + ")", m.go(s), NULL);
            }
        });
        sentence(1, "all SHEETS are LOST.", () -> {
            GridMender m = new GridMender();
            for (int s = 0; s < 4; s++) {
                due("lose(" + s + ")", m.lose(s), NULL);
            }
        });
    }

    private static void grid() {
        sentence(2, "H, W: how many CELLS.", () -> {
            for (int h = 1; h <= 7; h++) {
                for (int w = 1; w <= 7; w++) {
                    GridMender m = new GridMender();
                    due("grid(" + h + ", " + w + ")", m.grid(h, w), h * w);
                    due("count(0)", m.count(0), h * w);
                    due("H", Twins.heightOf(m), h);
                    due("W", Twins.widthOf(m), w);
                }
            }
            Twins.tells(Twins.FRESH, "grid(5, 6)", m -> m.grid(5, 6), 30);
            Twins.changesOnly(Twins.WORKED, "grid(4, 5)", m -> m.grid(4, 5), 20, "digest", "count 1", "count 2", "count 5",
                "count 6", "count 7", "whole", "moves", "broken", "witness", "core", "critical", "least", "chains", "cut",
                "seats", "faulty", "task", "column 0", "column 1", "column 2", "column 3", "slot 2 differ", "slot 2 go",
                "slot 5 differ", "slot 5 go");
            int[][] grids = {{1, 1}, {2, 2}, {5, 7}, {5, 6}, {4, 6}, {7, 7}, {7, 6}, {4, 5}};
            for (int[] hw : grids) {
                Twins.forgets(Twins.ALL, "grid(" + hw[0] + ", " + hw[1] + ")", m -> m.grid(hw[0], hw[1]));
            }
        });
        sentence(2, "BAD.", () -> {
            for (int n : outside(1, 7)) {
                Twins.refused(Twins.ALL, "grid(" + n + ", 3)", m -> m.grid(n, 3), BAD);
                Twins.refused(Twins.ALL, "grid(3, " + n + ")", m -> m.grid(3, n), BAD);
            }
            Twins.refused(Twins.ALL, "grid(0, 8)", m -> m.grid(0, 8), BAD);
        });
    }

    private static void wish() {
        sentence(3, "WISH: what it was.", () -> {
            GridMender m = new GridMender();
            m.grid(1, 7);
            int was = 4;
            for (int n : new int[] {1, 7, 2, 6, 6, 1}) {
                due("wish(" + n + ")", m.wish(n), was);
                due("WISH", Twins.wishOf(m), n);
                was = n;
            }
            GridMender narrow = new GridMender();
            narrow.grid(7, 1);
            due("wish(1) of W 1", narrow.wish(1), 1);
            Twins.changesOnly(Twins.WORKED, "wish(3), the same", x -> x.wish(3), 3, "digest", "count 5", "moves", "broken",
                "task", "column 0", "column 1", "column 2", "column 3", "slot 2 differ", "slot 5 differ");
            for (int n = 1; n <= 7; n++) {
                int wish = n;
                Twins.forgets(Twins.ALL, "wish(" + n + ")", x -> x.wish(wish));
            }
        });
        sentence(3, "BAD.", () -> {
            for (int n : outside(1, 7)) {
                Twins.refused(Twins.ALL, "wish(" + n + ")", m -> m.wish(n), BAD);
            }
            Twins.refused(Twins.FRESH, "wish(7) of W 6", m -> m.wish(7), BAD);
            Twins.refused(Twins.WORKED, "wish(6) of W 5", m -> m.wish(6), BAD);
            Twins.refused(Twins.CRAMMED, "wish(8) of W 7", m -> m.wish(8), BAD);
            Twins.refused(Twins.HOPELESS, "wish(2) of W 1", m -> m.wish(2), BAD);
        });
    }

    private static void length() {
        sentence(4, "LENGTH: what it was.", () -> {
            GridMender m = new GridMender();
            int was = 1;
            for (int n : new int[] {0, 3, 1, 2, 2, 0}) {
                due("length(" + n + ")", m.length(n), was);
                was = n;
            }
            Twins.changesOnly(Twins.WORKED, "length(1), the same", x -> x.length(1), 1);
            Twins.changesOnly(Twins.CRAMMED, "length(0)", x -> x.length(0), 3, "LENGTH", "digest", "broken", "core", "slot 0 go",
                "slot 1 go", "slot 2 go", "slot 3 go", "slot 4 go", "slot 5 go");
            for (int n = 0; n <= 3; n++) {
                int length = n;
                Twins.forgets(Twins.ALL, "length(" + n + ")", x -> x.length(length));
            }
        });
        sentence(4, "BAD.", () -> {
            for (int n : outside(0, 3)) {
                Twins.refused(Twins.ALL, "length(" + n + ")", m -> m.length(n), BAD);
            }
            Twins.refused(Twins.ALL, "length(6), that least() looks at", m -> m.length(6), BAD);
        });
    }

    private static void sides() {
        sentence(5, "SIDES (0 to 15): what they were.", () -> {
            GridMender m = new GridMender();
            int was = 4;
            for (int bits = 15; bits >= 0; bits--) {
                due("sides(" + bits + ")", m.sides(bits), was);
                was = bits;
            }
            due("sides(0), the same", m.sides(0), 0);
            Twins.changesOnly(Twins.WORKED, "sides(0)", x -> x.sides(0), 9, "SIDES", "chains", "cut", "count 6", "digest");
            for (int bits = 0; bits <= 15; bits++) {
                int open = bits;
                Twins.forgets(Twins.ALL, "sides(" + bits + ")", x -> x.sides(open));
            }
        });
        sentence(5, "BAD.", () -> {
            for (int bits : outside(0, 15)) {
                Twins.refused(Twins.ALL, "sides(" + bits + ")", m -> m.sides(bits), BAD);
            }
        });
    }

    private static void fault() {
        sentence(6, "A CELL is FAULTY, or GOOD again: how many are FAULTY.", () -> {
            GridMender m = new GridMender();
            m.grid(7, 7);
            for (int number = 0; number < 49; number++) {
                due("fault at " + number, m.fault(number % 7, number / 7), number + 1);
            }
            due("count(1), all FAULTY", m.count(1), 49);
            for (int number = 0; number < 49; number++) {
                due("fault again at " + number, m.fault(number % 7, number / 7), 48 - number);
                due("cell at " + number, m.cell(number % 7, number / 7, 0), 0);
            }
            GridMender laid = drawn(2, 1, "...");
            laid.mend();
            laid.fault(0, 0);
            due("count(5): it stays LAID", laid.count(5), 1);
            dueRow(laid, 0, 0, 1);
            for (int number = 0; number < 49; number++) {
                int at = number;
                Twins.forgets(Twins.ALL, "fault at " + number, x -> x.fault(at % 7, at / 7));
            }
        });
        sentence(6, "BAD.", () -> {
            for (int n : outside(0, 6)) {
                Twins.refused(Twins.ALL, "fault(" + n + ", 0)", m -> m.fault(n, 0), BAD);
                Twins.refused(Twins.ALL, "fault(0, " + n + ")", m -> m.fault(0, n), BAD);
            }
            Twins.refused(Twins.FRESH, "fault(6, 0) of W 6", m -> m.fault(6, 0), BAD);
            Twins.refused(Twins.FRESH, "fault(0, 5) of H 5", m -> m.fault(0, 5), BAD);
            Twins.refused(Twins.WORKED, "fault(5, 0) of W 5", m -> m.fault(5, 0), BAD);
            Twins.refused(Twins.WORKED, "fault(0, 4) of H 4", m -> m.fault(0, 4), BAD);
            Twins.refused(Twins.HOPELESS, "fault(1, 0) of W 1", m -> m.fault(1, 0), BAD);
            Twins.refused(Twins.HOPELESS, "fault(0, 1) of H 1", m -> m.fault(0, 1), BAD);
        });
    }

    private static void lots() {
        sentence(7, "Each CELL by number is FAULTY, if LOTS are less than n (0 to 16), else GOOD: how many are FAULTY.", () -> {
            int[][] grids = {{1, 1}, {2, 7}, {7, 2}, {5, 6}, {7, 7}};
            for (int[] hw : grids) {
                int[] lots = TermEdges.lotsOf(2026, 49);
                for (int n = 0; n <= 16; n++) {
                    GridMender m = new GridMender();
                    m.grid(hw[0], hw[1]);
                    m.fault(0, 0);
                    int answer = m.lots(2026, n);
                    int many = 0;
                    for (int number = 0; number < hw[0] * hw[1]; number++) {
                        many += lots[number] < n ? 1 : 0;
                        due("CELL " + number + " by lots(2026, " + n + ")", m.cell(number % hw[1], number / hw[1], 0),
                            lots[number] < n ? 1 : 0);
                    }
                    due("lots(2026, " + n + ")", answer, many);
                }
            }
            for (int seed : new int[] {0, -1, LEAST, GREATEST, 5, -77}) {
                GridMender m = new GridMender();
                due("lots(" + seed + ", 16): all", m.lots(seed, 16), 30);
                due("lots(" + seed + ", 0): none", m.lots(seed, 0), 0);
            }
            GridMender again = new GridMender();
            int first = again.lots(11, 6);
            again.lots(12, 9);
            due("lots(11, 6) again: SEED is told anew", again.lots(11, 6), first);
            again.lots(1, 0);
            again.mend();
            again.lots(1, 16);
            due("count(5): it stays LAID", again.count(5), 1);
            for (int n = 0; n <= 16; n++) {
                int less = n;
                Twins.forgets(Twins.ALL, "lots(3, " + n + ")", x -> x.lots(3, less));
            }
        });
        sentence(7, "BAD.", () -> {
            for (int n : outside(0, 16)) {
                Twins.refused(Twins.ALL, "lots(7, " + n + ")", m -> m.lots(7, n), BAD);
            }
        });
    }

    private static void read() {
        sentence(8, "CELLS of a ROW from COLUMN 0 on by a SHEET: those whose item is not false (0) are FAULTY, others GOOD,", () -> {
            int[][] items = {{1, 0, -1}, {1, 65536, 65535}, {LEAST, 0, 65536}};
            String[] rows = {"#.#", "#.#", "#.#"};
            for (int form = 0; form < 3; form++) {
                GridMender m = drawn(1, 0, "...", "...", "...");
                m.fault(1, 1);
                m.sheet(0, form, 3);
                for (int i = 0; i < 3; i++) {
                    m.lay(0, form, i, items[form][i]);
                }
                due("read(1, 0) of FORM " + form, m.read(1, 0), 3);
                dueCells(m, "...", rows[form], "...");
            }
            GridMender laid = drawn(1, 0, "...");
            laid.mend();
            laid.sheet(0, 0, 3);
            laid.lay(0, 0, 0, 1);
            laid.read(0, 0);
            due("count(5): it stays LAID", laid.count(5), 1);
            due("broken()", laid.broken(), 1);
            dueItems(laid, 0, 0, 1, 0, 0);
            for (int y = 0; y < 4; y++) {
                for (int s = 0; s < 3; s++) {
                    int row = y;
                    int sheet = s;
                    Twins.forgets(Twins.WORKED, "read(" + y + ", " + s + ")", m -> m.read(row, sheet));
                }
            }
        });
        sentence(8, "as many as there are items, and COLUMNS: how many.", () -> {
            for (int w = 1; w <= 7; w++) {
                for (int n : new int[] {0, 1, w - 1, w, w + 1, 60}) {
                    GridMender m = new GridMender();
                    m.grid(2, w);
                    m.lots(1, 16);
                    m.sheet(1, 2, n);
                    due("read(0, 1) of " + n + " items, W " + w, m.read(0, 1), Math.min(n, w));
                    due("count(1)", m.count(1), 2 * w - Math.min(n, w));
                    for (int x = 0; x < w; x++) {
                        due("cell(" + x + ", 0, 0)", m.cell(x, 0, 0), x < n ? 0 : 1);
                        due("cell(" + x + ", 1, 0)", m.cell(x, 1, 0), 1);
                    }
                }
            }
            Twins.tells(Twins.FRESH, "read(0, 2) of a SHEET of 0 items", m -> {
                m.sheet(2, 0, 0);
                int answer = m.read(0, 2);
                m.lose(2);
                return answer;
            }, 0);
        });
        sentence(8, "BAD;", () -> {
            for (int n : outside(0, 6)) {
                Twins.refused(Twins.ALL, "read(" + n + ", 0)", m -> m.read(n, 0), BAD);
            }
            for (int s : outside(0, 3)) {
                Twins.refused(Twins.ALL, "read(0, " + s + ")", m -> m.read(0, s), BAD);
            }
            Twins.refused(Twins.WORKED, "read(4, 0) of H 4", m -> m.read(4, 0), BAD);
            Twins.refused(Twins.WORKED, "read(4, 3), LOST too: BAD is ahead", m -> m.read(4, 3), BAD);
            Twins.refused(Twins.HOPELESS, "read(1, 0) of H 1", m -> m.read(1, 0), BAD);
        });
        sentence(8, "NULL.", () -> {
            for (int s = 0; s < 4; s++) {
                int lost = s;
                Twins.refused(Twins.FRESH, "read(4, " + s + ")", m -> m.read(4, lost), NULL);
            }
            Twins.refused(Twins.WORKED, "read(3, 3)", m -> m.read(3, 3), NULL);
            Twins.refused(Twins.HOPELESS, "read(0, 1), LOST again", m -> m.read(0, 1), NULL);
        });
    }

    private static void cell() {
        sentence(9, "Whether it is FAULTY (what = 0: 1, 0),", () -> {
            GridMender m = drawn(1, 0, "#..", "..#");
            dueCells(m, "#..", "..#");
            m.lots(1, 16);
            dueCells(m, "###", "###");
        });
        sentence(9, "the TASK LAID there (1; NONE),", () -> {
            GridMender m = drawn(2, 3, ".....", ".....");
            due("cell(0, 0, 1), nothing LAID", m.cell(0, 0, 1), NONE);
            m.mend();
            m.seat(1, 1 | 16);
            int[][] want = {{0, 1, NONE, NONE, NONE}, {0, NONE, NONE, NONE, 1}};
            for (int y = 0; y < 2; y++) {
                for (int x = 0; x < 5; x++) {
                    due("cell(" + x + ", " + y + ", 1)", m.cell(x, y, 1), want[y][x]);
                }
            }
            GridMender seven = drawn(7, 0, ".......");
            seven.mend();
            due("cell(6, 0, 1), the TASK 6", seven.cell(6, 0, 1), 6);
            seven.fault(6, 0);
            due("cell(6, 0, 1), FAULTY", seven.cell(6, 0, 1), 6);
        });
        sentence(9, "whether it is CRITICAL (2: 1, 0),", () -> {
            GridMender m = drawn(2, 0, "#..", "...");
            int[][] want = {{0, 1, 1}, {0, 1, 1}};
            for (int y = 0; y < 2; y++) {
                for (int x = 0; x < 3; x++) {
                    due("cell(" + x + ", " + y + ", 2)", m.cell(x, y, 2), want[y][x]);
                }
            }
            m.fault(1, 1);
            due("cell(1, 0, 2), not WHOLE", m.cell(1, 0, 2), 0);
        });
        sentence(9, "of CORE (3: 1, 0),", () -> {
            GridMender m = drawn(2, 0, "#.#", "..#");
            int[][] want = {{1, 0, 0}, {0, 0, 1}};
            for (int y = 0; y < 2; y++) {
                for (int x = 0; x < 3; x++) {
                    due("cell(" + x + ", " + y + ", 3)", m.cell(x, y, 3), want[y][x]);
                }
            }
            due("cell(0, 0, 3), WHOLE", drawn(1, 0, "#.").cell(0, 0, 3), 0);
        });
        sentence(9, "of the CUT (4: 1, 0).", () -> {
            GridMender m = drawn(1, 0, "##.", "...");
            int[][] want = {{1, 1, 0}, {0, 0, 0}};
            for (int y = 0; y < 2; y++) {
                for (int x = 0; x < 3; x++) {
                    due("cell(" + x + ", " + y + ", 4)", m.cell(x, y, 4), want[y][x]);
                }
            }
            GridMender last = new GridMender();
            last.grid(7, 7);
            last.fault(6, 6);
            due("cell(6, 6, 4) of 7 by 7", last.cell(6, 6, 4), 1);
            due("cell(2, 2, 4): 48 less 32", last.cell(2, 2, 4), 0);
            last.sides(0);
            due("cell(6, 6, 4), no SIDE open", last.cell(6, 6, 4), 0);
        });
        sentence(9, "BAD.", () -> {
            for (int what = 0; what < 5; what++) {
                int asked = what;
                for (int n : outside(0, 6)) {
                    Twins.refused(Twins.WORKED, "cell(" + n + ", 0, " + what + ")", m -> m.cell(n, 0, asked), BAD);
                    Twins.refused(Twins.WORKED, "cell(0, " + n + ", " + what + ")", m -> m.cell(0, n, asked), BAD);
                }
                Twins.refused(Twins.WORKED, "cell(5, 0, " + what + ") of W 5", m -> m.cell(5, 0, asked), BAD);
                Twins.refused(Twins.WORKED, "cell(0, 4, " + what + ") of H 4", m -> m.cell(0, 4, asked), BAD);
                Twins.refused(Twins.HOPELESS, "cell(1, 0, " + what + ") of W 1", m -> m.cell(1, 0, asked), BAD);
                Twins.refused(Twins.HOPELESS, "cell(0, 1, " + what + ") of H 1", m -> m.cell(0, 1, asked), BAD);
            }
            for (int what : outside(0, 4)) {
                Twins.refused(Twins.ALL, "cell(0, 0, " + what + ")", m -> m.cell(0, 0, what), BAD);
            }
        });
    }
}
