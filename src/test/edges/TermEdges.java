import java.math.BigInteger;

/** The words in capitals: "What it is", the constants of the face, "Terms" up to the refusals. */
final class TermEdges extends Told {
    static void run() {
        cells();
        face();
        seats();
        placings();
        mend();
        slotsAndChanges();
        witness();
        core();
        critical();
        broken();
        chains();
        cut();
        lots();
        sheets();
        findings();
    }

    private static void cells() {
        sentence(WHAT, "CELLS are in ROWS y 0 to H less 1 and COLUMNS x 0 to W less 1", () -> {
            for (int h = 1; h <= 7; h++) {
                for (int w = 1; w <= 7; w++) {
                    GridMender m = new GridMender();
                    m.grid(h, w);
                    dueEdgeOf(m, h, w);
                }
            }
        });
        sentence(WHAT, "(H, W 1 to 7; 5 and 6 at first)", () -> {
            dueEdgeOf(new GridMender(), 5, 6);
            GridMender m = new GridMender();
            due("grid(1, 1)", m.grid(1, 1), 1);
            due("grid(7, 7)", m.grid(7, 7), 49);
            due("grid(0, 7)", m.grid(0, 7), BAD);
            due("grid(7, 0)", m.grid(7, 0), BAD);
            due("grid(8, 7)", m.grid(8, 7), BAD);
            due("grid(7, 8)", m.grid(7, 8), BAD);
        });
        sentence(WHAT, "numbered y times W and x", () -> {
            for (int h = 1; h <= 7; h++) {
                for (int w = 1; w <= 7; w++) {
                    GridMender m = new GridMender();
                    m.grid(h, w);
                    m.sides(15);
                    m.fault(w - 1, h - 1);
                    due("cut() of the last CELL of " + h + " by " + w, m.cut(), 1L << h * w - 1);
                }
            }
            GridMender m = drawn(1, 0, ".....", "...#.");
            due("cut() of the CELL 3 1 of 2 by 5", m.cut(), 1L << 8);
        });
        sentence(WHAT, "each is GOOD (at first) or FAULTY.", () -> {
            GridMender m = new GridMender();
            dueCells(m, "......", "......", "......", "......", "......");
            m.fault(5, 4);
            dueCells(m, "......", "......", "......", "......", ".....#");
        });
        sentence(WHAT, "An object is used for at most 512 calls after it has been made; what later calls answer is free.",
            () -> {
                GridMender m = new GridMender();
                m.mend();
                for (int call = 1; call < 510; call++) {
                    due("fault(0, 0), call " + (call + 1), m.fault(0, 0), call % 2);
                }
                due("broken(), call 511", m.broken(), 1);
                due("mend(), call 512", m.mend(), 4);
            });
    }

    private static void dueEdgeOf(GridMender m, int h, int w) {
        String of = " of " + h + " by " + w;
        due("count(0)" + of, m.count(0), h * w);
        int[][] inside = {{0, 0}, {w - 1, 0}, {0, h - 1}, {w - 1, h - 1}};
        int[][] outside = {{-1, 0}, {0, -1}, {w, 0}, {0, h}, {w, h - 1}, {w - 1, h}, {-1, h - 1}, {w - 1, -1}};
        for (int[] at : inside) {
            due("cell at " + at[0] + " " + at[1] + of, m.cell(at[0], at[1], 0), 0);
            due("fault at " + at[0] + " " + at[1] + of, m.fault(at[0], at[1]), 1);
            due("fault again" + of, m.fault(at[0], at[1]), 0);
        }
        for (int[] at : outside) {
            due("cell at " + at[0] + " " + at[1] + of, m.cell(at[0], at[1], 0), BAD);
            due("fault at " + at[0] + " " + at[1] + of, m.fault(at[0], at[1]), BAD);
        }
        due("column(h - 1, 0)" + of, m.column(h - 1, 0), NONE);
        due("column(h, 0)" + of, m.column(h, 0), BAD);
        dueTrue("seats(h - 1)" + of, m.seats(h - 1) > 0);
        due("seats(h)" + of, m.seats(h), BAD);
    }

    private static void face() {
        sentence(FACE, "public static final int NONE = -1, BAD = -2, NOT = -3, FULL = -4;", () -> {
            due("NONE", GridMender.NONE, -1);
            due("BAD", GridMender.BAD, -2);
            due("NOT", GridMender.NOT, -3);
            due("FULL", GridMender.FULL, -4);
        });
    }

    private static void seats() {
        sentence(TERMS, "Each ROW has WISH TASKS (1 to W; 4 at first), 0 on.", () -> {
            due("WISH of a new object", Twins.wishOf(new GridMender()), 4);
            for (int w = 1; w <= 7; w++) {
                for (int n = 1; n <= w; n++) {
                    GridMender m = new GridMender();
                    m.grid(2, w);
                    m.wish(n);
                    m.mend();
                    for (int y = 0; y < 2; y++) {
                        due("column of TASK -1", m.column(y, -1), BAD);
                        due("column of TASK 0", m.column(y, 0), 0);
                        due("column of the last TASK of " + n, m.column(y, n - 1), n - 1);
                        due("column of a TASK more than " + n, m.column(y, n), BAD);
                    }
                }
            }
        });
        sentence(TERMS, "LENGTH (0 to 3; 1 at first).", () -> {
            GridMender m = new GridMender();
            due("length(0)", m.length(0), 1);
            due("length(3)", m.length(3), 0);
            due("length(-1)", m.length(-1), BAD);
            due("length(4)", m.length(4), BAD);
            due("length(3) again", m.length(3), 3);
        });
        sentence(TERMS, "A SEAT of a ROW: a set of WISH of its COLUMNS; TASK j is at the j-th of these from the least on.",
            () -> {
                for (int n = 1; n <= 7; n++) {
                    GridMender m = new GridMender();
                    m.grid(1, 7);
                    m.wish(n);
                    m.mend();
                    m.seat(0, (1 << n) - 1 << 7 - n);
                    for (int j = 0; j < n; j++) {
                        due("TASK " + j + " of " + n + " at the right", m.column(0, j), 7 - n + j);
                    }
                }
                GridMender m = new GridMender();
                m.grid(1, 7);
                m.wish(3);
                m.mend();
                m.seat(0, 1 | 8 | 64);
                dueRow(m, 0, 0, 3, 6);
                due("seat(), of 2 COLUMNS", m.seat(0, 1 | 64), BAD);
                due("seat(), of 4 COLUMNS", m.seat(0, 1 | 2 | 8 | 64), BAD);
                due("seat(), one not of the ROW", m.seat(0, 1 | 8 | 128), BAD);
            });
        sentence(TERMS, "It FITS the ROW, if all these CELLS are GOOD,", () -> {
            for (int x = 0; x < 7; x++) {
                GridMender all = drawn(7, 3, ".......");
                all.fault(x, 0);
                due("seats(0) of WISH 7, FAULTY " + x, all.seats(0), 0);
                GridMender one = drawn(1, 3, ".......");
                one.fault(x, 0);
                due("seats(0) of WISH 1, FAULTY " + x, one.seats(0), 6);
            }
            due("seats(0) of two GOOD CELLS", drawn(2, 0, goodAt(5, 6)).seats(0), 1);
        });
        sentence(TERMS, "and from each to the next there are no more than LENGTH COLUMNS between.", () -> {
            for (int length = 0; length <= 3; length++) {
                due("seats(0), LENGTH between", drawn(2, length, goodAt(0, length + 1)).seats(0), 1);
                due("seats(0), one more between", drawn(2, length, goodAt(0, length + 2)).seats(0), 0);
                due("seats(0), LENGTH between the last", drawn(3, length, goodAt(0, 1, length + 2)).seats(0), 1);
                due("seats(0), one more between the last", drawn(3, length, goodAt(0, 1, length + 3)).seats(0), 0);
                due("seats(0), LENGTH between the first", drawn(3, length, goodAt(0, length + 1, length + 2)).seats(0), 1);
                due("seats(0), one more between the first", drawn(3, length, goodAt(0, length + 2, length + 3)).seats(0), 0);
            }
            due("seats(0), twice LENGTH", drawn(3, 2, goodAt(0, 3, 6)).seats(0), 1);
            due("seats(0) of one TASK", drawn(1, 0, goodAt(0, 6)).seats(0), 2);
        });
        sentence(TERMS, "SEATS of two ROWS one below the other FIT each other, if COLUMNS of TASK j, for each j, differ by"
            + " LENGTH at most.", TermEdges::fittingRows);
    }

    private static void fittingRows() {
        for (int length = 0; length <= 3; length++) {
            due("whole(), LENGTH to the right", drawn(1, length, goodAt(1), goodAt(1 + length)).whole(), 1);
            due("whole(), one more to the right", drawn(1, length, goodAt(1), goodAt(2 + length)).whole(), 0);
            due("whole(), LENGTH to the left", drawn(1, length, goodAt(1 + length), goodAt(1)).whole(), 1);
            due("whole(), one more to the left", drawn(1, length, goodAt(2 + length), goodAt(1)).whole(), 0);
            due("whole(), ROWS 5 and 6", drawn(1, length, "#......", ".......", ".......", ".......", ".......",
                goodAt(0), goodAt(1 + length)).whole(), 0);
        }
        for (int length = 1; length <= 3; length++) {
            String together = goodAt(0, 1);
            due("whole(), the last TASK too far", drawn(2, length, together, goodAt(1, length + 2)).whole(), 0);
            due("whole(), the last TASK near", drawn(2, length, together, goodAt(1, length + 1)).whole(), 1);
            String spread = goodAt(0, length + 1);
            due("whole(), the first TASK too far", drawn(2, length, spread, goodAt(length + 1, length + 2)).whole(), 0);
            due("whole(), the first TASK near", drawn(2, length, spread, goodAt(length, length + 2)).whole(), 1);
        }
        due("whole(), the middle TASK too far", drawn(3, 1, goodAt(0, 1, 3), goodAt(1, 3, 4)).whole(), 0);
        due("whole(), two TASKS differ, each to another side", drawn(3, 1, goodAt(0, 2, 4), goodAt(1, 2, 3)).whole(), 1);
        due("whole(), the same, LENGTH 2", drawn(3, 2, goodAt(0, 3, 6), goodAt(2, 3, 4)).whole(), 1);
        due("whole(), the same, one too far", drawn(3, 2, goodAt(0, 3, 6), goodAt(3, 4, 5)).whole(), 0);
        due("whole(), the middle TASK near", drawn(3, 2, goodAt(0, 1, 3), goodAt(1, 3, 4)).whole(), 1);
        due("whole(), ROWS not one below the other", drawn(1, 1, goodAt(0), goodAt(1), goodAt(2)).whole(), 1);
    }

    private static void placings() {
        sentence(TERMS, "A PLACING: a SEAT for each ROW, each of which FITS its ROW, ROWS one below the other FIT each other.",
            () -> {
                due("mend() of one ROW", drawn(2, 0, "..").mend(), 0);
                GridMender stairs = drawn(1, 1, goodAt(0), goodAt(1), goodAt(2), goodAt(3), goodAt(4), goodAt(5), goodAt(6));
                due("mend() of stairs", stairs.mend(), 6);
                for (int y = 0; y < 7; y++) {
                    dueRow(stairs, y, y);
                }
                due("broken() of a PLACING", stairs.broken(), 0);
                stairs.length(0);
                due("mend() of stairs, LENGTH 0", stairs.mend(), NOT);
            });
        sentence(TERMS, "The GRID is WHOLE, if there is a PLACING.", () -> {
            for (int x = 0; x < 7; x++) {
                GridMender m = drawn(1, 0, goodAt(x), ".......", goodAt(x));
                due("whole() by COLUMN " + x, m.whole(), 1);
                m.fault(x, 1);
                due("whole() without it", m.whole(), 0);
            }
        });
        sentence(TERMS, "LAID is a SEAT for each ROW (whether these FIT or not), or nothing (at first).", () -> {
            due("count(5) of a new object", new GridMender().count(5), 0);
            GridMender m = drawn(2, 0, "...", "...");
            m.mend();
            due("seat(0, 5), that does not FIT", m.seat(0, 5), 1);
            dueRow(m, 0, 0, 2);
            m.lots(1, 16);
            due("count(5), all CELLS FAULTY", m.count(5), 1);
            due("seat(1, 6), all CELLS FAULTY", m.seat(1, 6), 2);
            dueRow(m, 1, 1, 2);
            due("mend(), all CELLS FAULTY", m.mend(), NOT);
            dueRow(m, 1, 1, 2);
        });
    }

    private static void mend() {
        sentence(TERMS, "MOVES from what is LAID to SEATS: how many TASKS are at another COLUMN;", () -> {
            GridMender m = drawn(3, 3, "......", "......");
            m.mend();
            m.keep(0);
            due("differ(0), none moved", m.differ(0), 0);
            m.seat(0, 1 | 2 | 8);
            due("differ(0), the last moved", m.differ(0), 1);
            m.seat(1, 2 | 4 | 8);
            due("differ(0), four moved: a TASK at another's COLUMN is moved", m.differ(0), 4);
            m.seat(0, 8 | 16 | 32);
            due("differ(0), all moved", m.differ(0), 6);
        });
        sentence(TERMS, "if nothing is LAID, TASK j is taken to be at COLUMN j.", () -> {
            due("moves() of GOOD CELLS", drawn(3, 1, ".....", ".....").moves(), 0);
            due("moves(), COLUMN 1 FAULTY", drawn(3, 1, ".#...").moves(), 2);
            due("moves(), COLUMN 0 FAULTY", drawn(3, 1, "#....").moves(), 3);
            due("moves(), WISH is W is 7", drawn(7, 0, ".......").moves(), 0);
            GridMender m = drawn(2, 2, "....", "....");
            m.mend();
            m.seat(0, 12);
            m.keep(0);
            m.wish(2);
            due("differ(0), nothing LAID", m.differ(0), 2);
        });
        sentence(TERMS, "MEND: the PLACING to which MOVES are fewest;", () -> {
            GridMender m = drawn(2, 1, "......", "......", "......");
            m.mend();
            m.seat(0, 48);
            m.seat(1, 48);
            due("mend(): the ROW that is alone moves", m.mend(), 2);
            dueRow(m, 0, 4, 5);
            dueRow(m, 1, 4, 5);
            dueRow(m, 2, 3, 4);
            GridMender far = drawn(1, 1, ".......", ".......", "......#");
            far.mend();
            far.seat(0, 64);
            far.seat(1, 64);
            far.seat(2, 64);
            due("mend(): the one at the FAULTY CELL alone", far.mend(), 1);
            dueRow(far, 2, 5);
        });
        sentence(TERMS, "of like ones that whose SEAT of ROW 0 is the least as bits (COLUMN 0 the lowest),", () -> {
            for (int x = 0; x < 6; x++) {
                GridMender m = drawn(1, 0, ".......", ".......");
                m.mend();
                m.seat(0, 64);
                m.seat(1, 64);
                m.fault(6, 0);
                for (int left = 0; left < x; left++) {
                    m.fault(left, 1);
                }
                due("mend() from the right", m.mend(), 2);
                dueRow(m, 0, x);
                dueRow(m, 1, x);
            }
            GridMender two = drawn(2, 3, "....##");
            two.mend();
            two.seat(0, 48);
            due("mend() of two TASKS from the right", two.mend(), 2);
            dueRow(two, 0, 0, 1);
            GridMender either = drawn(1, 2, ".......", ".......");
            either.mend();
            either.seat(0, 8);
            either.seat(1, 64);
            due("mend(): ROW 0 or ROW 1 may move", either.mend(), 1);
            dueRow(either, 0, 3);
            dueRow(either, 1, 1);
        });
        sentence(TERMS, "of like ones of ROW 1, and so on.", () -> {
            GridMender m = drawn(1, 2, goodAt(4), goodAt(1, 3, 5, 6), goodAt(2, 3, 5), goodAt(0, 3, 4));
            due("mend()", m.mend(), 3);
            dueRow(m, 0, 4);
            dueRow(m, 1, 3);
            dueRow(m, 2, 2);
            dueRow(m, 3, 0);
            GridMender like = drawn(1, 2, goodAt(4), goodAt(1, 3, 5, 6), goodAt(2, 3, 5), goodAt(3, 4));
            due("mend() of like ones", like.mend(), 4);
            dueRow(like, 0, 4);
            dueRow(like, 1, 3);
            dueRow(like, 2, 2);
            dueRow(like, 3, 3);
            GridMender last = drawn(1, 3, ".", ".", ".", ".", ".", ".", ".");
            due("mend() of 7 by 1", last.mend(), 0);
            GridMender seventh = drawn(1, 3, "...", "...", "...", "...", "...", "...", "#..");
            due("mend(), ROW 6", seventh.mend(), 1);
            dueRow(seventh, 6, 1);
            for (int seed = 0; seed < 300; seed++) {
                mendOfAllPlacings(seed);
            }
        });
        sentence(TERMS, "It is LAID then.", () -> {
            GridMender m = drawn(1, 0, "#.", "..");
            due("count(5) before", m.count(5), 0);
            m.mend();
            due("count(5)", m.count(5), 1);
            dueRow(m, 0, 1);
            dueRow(m, 1, 1);
            due("cell(1, 1, 1)", m.cell(1, 1, 1), 0);
        });
    }

    /** By the words alone: every PLACING is set against every other. */
    private static void mendOfAllPlacings(int seed) {
        int h = 1 + seed % 4;
        int w = 2 + seed % 5;
        int wish = 1 + seed % Math.min(w, 3);
        int length = seed / 4 % 3;
        GridMender m = new GridMender();
        m.grid(h, w);
        m.wish(wish);
        m.length(length);
        if (seed % 3 != 0) {
            m.mend();
            for (int y = 0; y < h; y++) {
                m.seat(y, (1 << wish) - 1 << (seed + y) % (w - wish + 1));
            }
        }
        m.lots(seed, 2 + seed % 3);
        AllPlacings placings = new AllPlacings(m, h, w, wish, length);
        int[] mend = placings.mend();
        due("whole() by all PLACINGS, " + seed, m.whole(), mend == null ? 0 : 1);
        due("moves() by all PLACINGS, " + seed, m.moves(), mend == null ? NONE : placings.movesTo(mend));
        due("mend() by all PLACINGS, " + seed, m.mend(), mend == null ? NOT : placings.movesTo(mend));
        for (int y = 0; mend != null && y < h; y++) {
            int bits = 0;
            for (int j = 0; j < wish; j++) {
                bits |= 1 << m.column(y, j);
            }
            due("SEAT of ROW " + y + " by all PLACINGS, " + seed, bits, mend[y]);
        }
    }

    private static void slotsAndChanges() {
        sentence(TERMS, "SLOTS 0 .. 5 are EMPTY (at first) or keep SEATS with H, W and WISH as they were.", () -> {
            GridMender m = new GridMender();
            for (int s = 0; s < 6; s++) {
                due("differ(" + s + ") at first", m.differ(s), NULL);
            }
            due("differ(-1)", m.differ(-1), INDEX);
            due("differ(6)", m.differ(6), INDEX);
            m.mend();
            for (int s = 0; s < 6; s++) {
                m.seat(4, 15 << s % 3);
                due("keep(" + s + ")", m.keep(s), s + 1);
            }
            for (int s = 0; s < 6; s++) {
                m.go(s);
                due("column(4, 0) of SLOT " + s, m.column(4, 0), s % 3);
            }
            m.grid(6, 5);
            due("go(0) of 6 by 5", m.go(0), NOT);
            m.grid(5, 6);
            dueTrue("go(0) of 5 by 6", m.go(0) >= 0);
        });
        sentence(TERMS, "CHANGES of H, W, WISH: nothing is LAID then (if none of them is another one, too);", () -> {
            int[][] grids = {{4, 6}, {5, 7}, {5, 6}, {7, 7}, {1, 4}};
            for (int[] hw : grids) {
                GridMender m = new GridMender();
                m.mend();
                m.grid(hw[0], hw[1]);
                due("count(5) after grid(" + hw[0] + ", " + hw[1] + ")", m.count(5), 0);
                due("broken()", m.broken(), NONE);
            }
            for (int n = 1; n <= 6; n++) {
                GridMender m = new GridMender();
                m.mend();
                m.wish(n);
                due("count(5) after wish(" + n + ")", m.count(5), 0);
                due("column(0, 0)", m.column(0, 0), NONE);
            }
        });
        sentence(TERMS, "grid() makes all CELLS GOOD,", () -> {
            GridMender m = new GridMender();
            m.lots(1, 16);
            m.grid(5, 6);
            due("count(1) after grid() of the same", m.count(1), 0);
            m.grid(7, 7);
            m.lots(1, 16);
            m.grid(2, 2);
            m.grid(7, 7);
            due("count(1) after smaller and back", m.count(1), 0);
            due("cut()", m.cut(), 0);
            m.sides(15);
            due("chains()", m.chains(), 0);
        });
        sentence(TERMS, "and WISH no more than W.", () -> {
            for (int w = 1; w <= 7; w++) {
                GridMender m = new GridMender();
                m.grid(2, w);
                due("WISH after grid(2, " + w + ")", Twins.wishOf(m), Math.min(4, w));
                m.grid(2, 7);
                due("WISH after grid(2, 7)", Twins.wishOf(m), Math.min(4, w));
                due("whole()", m.whole(), 1);
            }
            GridMender high = new GridMender();
            high.grid(7, 3);
            due("WISH goes by W, not by H", Twins.wishOf(high), 3);
        });
    }

    private static void witness() {
        sentence(TERMS, "If the GRID is not WHOLE: WITNESS: of all rows of ROWS one below the other that have no PLACING by"
            + " themselves", () -> {
                GridMender all = drawn(1, 1, goodAt(0), ".......", ".......", "...#...", ".......", ".......", goodAt(6));
                due("witness(0) of all 7 ROWS", all.witness(0), 0);
                due("witness(1) of all 7 ROWS", all.witness(1), 6);
                all.fault(3, 3);
                due("witness(0), WHOLE", all.witness(0), NONE);
                due("witness(1), WHOLE", all.witness(1), NONE);
                GridMender one = drawn(1, 0, "#");
                due("witness(0) of the only ROW", one.witness(0), 0);
                due("witness(1) of the only ROW", one.witness(1), 0);
                GridMender last = drawn(1, 3, ".", ".", ".", ".", ".", ".", "#");
                due("witness(0) of the last ROW", last.witness(0), 6);
                due("witness(1) of the last ROW", last.witness(1), 6);
            });
        sentence(TERMS, "the one with fewest ROWS,", () -> {
            GridMender m = drawn(1, 0, ".#", "#.", "..", "..", "##");
            due("witness(0): one ROW is fewer than two", m.witness(0), 4);
            due("witness(1)", m.witness(1), 4);
            GridMender two = drawn(1, 1, "....", ".###", "....", "###.", "....", "##..", ".###");
            due("witness(0): two are fewer than three", two.witness(0), 5);
            due("witness(1)", two.witness(1), 6);
        });
        sentence(TERMS, "of like ones the first.", () -> {
            GridMender one = drawn(1, 0, "..", "##", "..", "##", "##");
            due("witness(0) of three FAULTY ROWS", one.witness(0), 1);
            due("witness(1)", one.witness(1), 1);
            GridMender two = drawn(1, 0, "..", ".#", "#.", ".#");
            due("witness(0) of two pairs", two.witness(0), 1);
            due("witness(1)", two.witness(1), 2);
            GridMender full = drawn(1, 3, "##", "##", "##");
            due("witness(0), all CELLS FAULTY", full.witness(0), 0);
            due("witness(1)", full.witness(1), 0);
        });
    }

    private static void core() {
        sentence(TERMS, "CORE: CELLS that are FAULTY, gone through by number:", () -> {
            GridMender m = drawn(1, 0, "##", "##");
            due("core()", m.core(), 2);
            dueCore(m, "00", "11");
            GridMender tall = drawn(1, 3, "#######", "#######", "#######", "#######", "#######", "#######", "#######");
            due("core() of 7 by 7, all FAULTY", tall.core(), 7);
            due("cell(6, 5, 3)", tall.cell(6, 5, 3), 0);
            due("cell(0, 6, 3)", tall.cell(0, 6, 3), 1);
            due("cell(6, 6, 3)", tall.cell(6, 6, 3), 1);
        });
        sentence(TERMS, "each is left out (taken to be GOOD, from then on) if the GRID is not WHOLE without it either;", () -> {
            GridMender m = drawn(3, 0, "###");
            due("core(): the last one is enough", m.core(), 1);
            dueCore(m, "001");
            GridMender later = drawn(1, 0, "#.#", ".##", "...");
            dueCore(later, "100", "011", "000");
            dueCore(drawn(1, 0, "..#", "##.", ".#."), "001", "100", "010");
        });
        sentence(TERMS, "those that are not left out.", () -> {
            GridMender far = drawn(1, 1, ".##", "##.");
            due("core(): each is needed", far.core(), 4);
            dueCore(far, "011", "110");
            GridMender none = drawn(1, 1, ".##", ".##");
            due("core(), WHOLE", none.core(), 0);
            dueCore(none, "000", "000");
            GridMender one = drawn(1, 0, "#");
            due("core() of 1 by 1", one.core(), 1);
            dueCore(one, "1");
        });
    }

    private static void dueCore(GridMender m, String... rows) {
        for (int y = 0; y < rows.length; y++) {
            for (int x = 0; x < rows[y].length(); x++) {
                due("cell(" + x + ", " + y + ", 3)", m.cell(x, y, 3), rows[y].charAt(x) - '0');
            }
        }
    }

    private static void critical() {
        sentence(TERMS, "If it is WHOLE, CRITICAL are CELLS that are GOOD, so that, were one FAULTY, it were not WHOLE.", () -> {
            GridMender m = drawn(2, 0, "..#", "...");
            int[][] want = {{1, 1, 0}, {1, 1, 0}};
            for (int y = 0; y < 2; y++) {
                for (int x = 0; x < 3; x++) {
                    due("cell(" + x + ", " + y + ", 2)", m.cell(x, y, 2), want[y][x]);
                }
            }
            due("critical() of 1 by 1", drawn(1, 0, ".").critical(), 1);
            due("critical() of 7 by 7, WISH 7", drawn(7, 3, ".......", ".......", ".......", ".......", ".......",
                ".......", ".......").critical(), 49);
            due("critical(), WISH 6 of 7 and LENGTH 0", drawn(6, 0, ".......").critical(), 5);
            due("critical(), WISH 6 of 7 and LENGTH 1", drawn(6, 1, ".......").critical(), 0);
            GridMender below = drawn(1, 0, "..", "..", "#.");
            due("critical() by the last ROW", below.critical(), 3);
            due("cell(1, 0, 2)", below.cell(1, 0, 2), 1);
            due("cell(0, 0, 2)", below.cell(0, 0, 2), 0);
            GridMender not = drawn(1, 0, ".#", "#.");
            due("critical(), not WHOLE", not.critical(), 0);
            due("cell(0, 0, 2), not WHOLE", not.cell(0, 0, 2), 0);
        });
    }

    private static void broken() {
        sentence(TERMS, "BROKEN: of what is LAID, how many TASKS are at FAULTY CELLS,", () -> {
            GridMender m = drawn(3, 3, "......", "......");
            m.mend();
            due("broken(), none", m.broken(), 0);
            m.fault(3, 0);
            m.fault(5, 1);
            due("broken(), FAULTY CELLS with no TASK", m.broken(), 0);
            m.fault(0, 0);
            m.fault(2, 1);
            due("broken(), the first and the last TASK", m.broken(), 2);
            m.lots(1, 16);
            due("broken(), all CELLS FAULTY", m.broken(), 6);
        });
        sentence(TERMS, "how many of one ROW, one next to the other, have more than LENGTH COLUMNS between,", () -> {
            for (int length = 0; length <= 3; length++) {
                GridMender m = drawn(2, length, ".......");
                m.mend();
                m.seat(0, 1 | 2 << length);
                due("broken(), LENGTH between", m.broken(), 0);
                m.seat(0, 1 | 4 << length);
                due("broken(), one more between", m.broken(), 1);
            }
            GridMender three = drawn(3, 1, ".......");
            three.mend();
            three.seat(0, 1 | 8 | 64);
            due("broken(), two wide gaps", three.broken(), 2);
            GridMender one = drawn(1, 0, ".......");
            one.mend();
            one.seat(0, 64);
            due("broken() of one TASK", one.broken(), 0);
        });
        sentence(TERMS, "how many, one below the other, differ by more than LENGTH, all together.", () -> {
            for (int length = 0; length <= 3; length++) {
                GridMender m = drawn(1, length, ".......", ".......", ".......");
                m.mend();
                m.seat(1, 1 << length);
                due("broken(), LENGTH to the right and back", m.broken(), 0);
                m.seat(1, 2 << length);
                due("broken(), one more to the right and back", m.broken(), 2);
                m.seat(2, 2 << length);
                due("broken(), to the right alone", m.broken(), 1);
                m.seat(0, 2 << length);
                m.seat(2, 1);
                due("broken(), to the left alone", m.broken(), 1);
            }
            GridMender all = drawn(2, 1, ".......", ".......");
            all.mend();
            all.seat(1, 4 | 32);
            all.fault(5, 1);
            due("broken(): one FAULTY, one wide, two far", all.broken(), 4);
        });
    }

    private static void chains() {
        sentence(TERMS, "SIDES that are open, as bits: 1 left, 2 top, 4 right (at first that alone), 8 bottom.", () -> {
            due("cut() at first", drawn(1, 0, "###", "###").cut(), 36);
            long[] cells = {9, 7, 36, 56};
            for (int bits = 0; bits < 16; bits++) {
                long open = 0;
                for (int side = 0; side < 4; side++) {
                    open |= (bits >> side & 1) == 1 ? cells[side] : 0;
                }
                GridMender m = drawn(1, 0, "###", "###");
                m.sides(bits);
                due("cut() with SIDES " + bits, m.cut(), open);
                due("chains() with SIDES " + bits, m.chains(), Long.bitCount(open));
            }
        });
        sentence(TERMS, "A CHAIN leads from a FAULTY CELL through GOOD ones, each beside, above or below the one before,", () -> {
            due("chains(), no CELL FAULTY", drawn(1, 0, "..", "..").chains(), 0);
            due("chains(): not through FAULTY ones", drawn(1, 0, "##.").chains(), 1);
            GridMender corner = drawn(1, 0, "##.", "#..", "...");
            corner.sides(4 | 8);
            due("chains(): not aslant", corner.chains(), 2);
            GridMender turn = drawn(1, 0, ".##", "..#", "...");
            turn.sides(1);
            due("chains(): the end of a ROW is not beside the next ROW", turn.chains(), 2);
            due("cut()", turn.cut(), 2 | 32);
            GridMender snake = drawn(1, 0, "......#", "#######");
            snake.sides(1);
            due("chains() to the left", snake.chains(), 2);
            GridMender tall = drawn(1, 0, ".", ".", ".", ".", ".", ".", "#");
            tall.sides(2);
            due("chains() up 7 ROWS", tall.chains(), 1);
            GridMender long7 = drawn(1, 0, "#......");
            due("chains() along 7 COLUMNS", long7.chains(), 1);
        });
        sentence(TERMS, "to a CELL (GOOD, or that FAULTY one itself) at an open SIDE, and out there.", () -> {
            GridMender itself = drawn(1, 0, "#");
            due("chains() of 1 by 1", itself.chains(), 1);
            itself.sides(0);
            due("chains() with no SIDE open", itself.chains(), 0);
            due("chains(), GOOD at the SIDE", drawn(1, 0, "#.").chains(), 1);
            due("chains(), the FAULTY one at the SIDE", drawn(1, 0, ".#").chains(), 1);
            GridMender shut = drawn(1, 0, "###", "###", "###");
            shut.sides(15);
            due("chains(), one shut in", shut.chains(), 8);
        });
        sentence(TERMS, "CHAINS: the greatest number of these so that no CELL is of two.", () -> {
            GridMender neck = drawn(1, 0, ".#.#", "...#");
            neck.sides(1);
            due("chains() of three FAULTY, two ways out", neck.chains(), 2);
            GridMender side = drawn(1, 0, "#", "#", "#");
            side.sides(2);
            due("chains() up a COLUMN", side.chains(), 1);
            side.sides(15);
            due("chains(), each a way of its own", side.chains(), 3);
            GridMender full = drawn(1, 0, "#######", "#######", "#######", "#######", "#######", "#######", "#######");
            full.sides(15);
            due("chains() of 7 by 7, all FAULTY", full.chains(), 24);
            GridMender inner = drawn(1, 0, ".......", ".#####.", ".#####.", ".#####.", ".#####.", ".#####.", ".......");
            inner.sides(15);
            due("chains() of the inner 25", inner.chains(), 16);
            // The short way of the CELL 0 1 is the only one of 0 0: it must go by the last ROW.
            GridMender yielding = drawn(1, 0, "#.#", "#..", "...");
            due("chains() of which one makes way", yielding.chains(), 3);
            due("cut()", yielding.cut(), 1 | 4 | 8);
        });
    }

    private static void cut() {
        sentence(TERMS, "CUT: of all sets of as many CELLS, without which no CHAIN is left,", () -> {
            due("cut(), no CELL FAULTY", drawn(1, 0, "..", "..").cut(), 0);
            GridMender none = drawn(1, 0, "##", "##");
            none.sides(0);
            due("cut(), no SIDE open", none.cut(), 0);
            GridMender neck = drawn(1, 0, ".#.#", "...#");
            neck.sides(1);
            due("cut(), one of it GOOD", neck.cut(), 2 | 64);
            due("cut(), one of it GOOD, the other at the SIDE", drawn(1, 0, "##.#", "....").cut(), 8 | 64);
            GridMender last = drawn(1, 0, "#######", "#######", "#######", "#######", "#######", "#######", "#######");
            last.sides(8);
            due("cut() of the last ROW of 7 by 7", last.cut(), 127L << 42);
        });
        sentence(TERMS, "the one with which fewest CELLS are reached:", () -> {
            due("cut(): the FAULTY one, not those on its way", drawn(1, 0, "#......").cut(), 1);
            due("cut(): the nearest to the left", drawn(1, 0, "##..").cut(), 2);
            due("cut() of two ROWS", drawn(1, 0, "##...", "##...").cut(), 2 | 64);
        });
        sentence(TERMS, "those not of the set that are FAULTY, and GOOD ones, not of it, beside, above or below a reached one.",
            () -> {
                GridMender neck = drawn(1, 0, "...#", ".#.#");
                neck.sides(1);
                due("cut(): above is reached, below is not", neck.cut(), 4 | 32);
                due("cell(2, 0, 4), GOOD", neck.cell(2, 0, 4), 1);
                due("cell(2, 1, 4), reached", neck.cell(2, 1, 4), 0);
                due("cell(1, 1, 4), FAULTY", neck.cell(1, 1, 4), 1);
                due("cell(3, 1, 4), FAULTY and reached", neck.cell(3, 1, 4), 0);
                GridMender up = drawn(1, 0, "..", "#.", "..", "##");
                up.sides(2);
                due("cut() upwards", up.cut(), 4 | 32);
            });
    }

    private static void lots() {
        sentence(TERMS, "LOTS: SEED becomes 1103515245 SEED and 12345, as ints that wrap; its upper 16 bits as a number from 0 on,"
            + " modulo 16.", () -> {
                int[] seeds = {0, 1, -1, 2, LEAST, GREATEST, LEAST + 1, 1 << 16, -12345, 1103515245, 777777777};
                for (int seed : seeds) {
                    int[] lots = lotsOf(seed, 49);
                    for (int n = 0; n <= 16; n++) {
                        GridMender m = new GridMender();
                        m.grid(7, 7);
                        m.lots(seed, n);
                        for (int number = 0; number < 49; number++) {
                            int want = lots[number] < n ? 1 : 0;
                            due("CELL " + number + " by lots(" + seed + ", " + n + ")", m.cell(number % 7, number / 7, 0), want);
                        }
                    }
                }
            });
    }

    /** In numbers that do not wrap by themselves. */
    static int[] lotsOf(int seed, int many) {
        BigInteger room = BigInteger.ONE.shiftLeft(32);
        BigInteger now = BigInteger.valueOf(seed).mod(room);
        int[] lots = new int[many];
        for (int i = 0; i < many; i++) {
            now = now.multiply(BigInteger.valueOf(1103515245)).add(BigInteger.valueOf(12345)).mod(room);
            lots[i] = now.divide(BigInteger.valueOf(65536)).mod(BigInteger.valueOf(16)).intValue();
        }
        return lots;
    }

    private static void sheets() {
        sentence(TERMS, "SHEETS 0 .. 3 are LOST (at first) or a row of a FORM:", () -> {
            GridMender m = new GridMender();
            for (int s = 0; s < 4; s++) {
                due("lose(" + s + ") at first", m.lose(s), NULL);
            }
            due("lose(-1)", m.lose(-1), BAD);
            due("lose(4)", m.lose(4), BAD);
            for (int s = 0; s < 4; s++) {
                due("sheet(" + s + ", 1, 2)", m.sheet(s, 1, 2), 2);
                due("get(" + s + ", 1, 1)", m.get(s, 1, 1), 0);
            }
            due("sheet(-1, 1, 2)", m.sheet(-1, 1, 2), BAD);
            due("sheet(4, 1, 2)", m.sheet(4, 1, 2), BAD);
        });
        sentence(TERMS, "0 truths, 1 chars, 2 ints,", () -> {
            GridMender m = new GridMender();
            int[] want = {1, 65535, -1};
            for (int form = 0; form < 3; form++) {
                m.sheet(0, form, 1);
                m.lay(0, form, 0, -1);
                due("get(0, " + form + ", 0)", m.get(0, form, 0), want[form]);
            }
            due("sheet(0, -1, 1)", m.sheet(0, -1, 1), BAD);
            due("sheet(0, 3, 1)", m.sheet(0, 3, 1), BAD);
        });
        sentence(TERMS, "of 0 to 60 items (false, 0 at first).", () -> {
            for (int form = 0; form < 3; form++) {
                GridMender m = new GridMender();
                due("sheet(0, " + form + ", 0)", m.sheet(0, form, 0), 0);
                due("lay, item 0 of none", m.lay(0, form, 0, 1), INDEX);
                due("sheet(0, " + form + ", 60)", m.sheet(0, form, 60), 60);
                for (int i = 0; i < 60; i++) {
                    due("get(0, " + form + ", " + i + ")", m.get(0, form, i), 0);
                    due("lay(0, " + form + ", " + i + ", 1)", m.lay(0, form, i, 1), 1);
                }
                due("lay, item 60", m.lay(0, form, 60, 1), INDEX);
                due("sheet(0, " + form + ", 61)", m.sheet(0, form, 61), BAD);
                due("sheet(0, " + form + ", -1)", m.sheet(0, form, -1), SIZE);
                due("lose(0)", m.lose(0), 60);
            }
        });
    }

    private static void findings() {
        sentence(TERMS, "FINDINGS (answers -10 less the number; they change nothing but count() 8):", () -> {
            GridMender m = new GridMender();
            due("count(8) before any", m.count(8), 0);
            m.sheet(0, 0, 1);
            m.sheet(1, 1, 1);
            int[] answers = {m.lose(2), m.lay(0, 0, 1, 1), m.lay(0, 1, 0, 1), m.copy(0, 0, 1, 0, 1), m.sheet(0, 0, -1)};
            for (int i = 0; i < 5; i++) {
                due("the answer of FINDING " + (i + 1), answers[i], -11 - i);
            }
            due("count(8): the latest", m.count(8), 5);
            due("lose(0): still there", m.lose(0), 1);
        });
        sentence(TERMS, "1 NULL: the SHEET is LOST, the SLOT EMPTY;", () -> {
            Twins.refused(Twins.WORKED, "lose(3)", m -> m.lose(3), NULL);
            Twins.refused(Twins.WORKED, "drop(1)", m -> m.drop(1), NULL);
        });
        sentence(TERMS, "2 INDEX: there is no such item, no such SLOT;", () -> {
            Twins.refused(Twins.WORKED, "lay(0, 0, 5, 1)", m -> m.lay(0, 0, 5, 1), INDEX);
            Twins.refused(Twins.WORKED, "drop(6)", m -> m.drop(6), INDEX);
            Twins.refused(Twins.WORKED, "drop(-1)", m -> m.drop(-1), INDEX);
        });
        sentence(TERMS, "3 CAST: it has another FORM;", () ->
            Twins.refused(Twins.WORKED, "lay(0, 1, 0, 1)", m -> m.lay(0, 1, 0, 1), CAST));
        sentence(TERMS, "4 STORE: unlike FORMS;", () ->
            Twins.refused(Twins.WORKED, "copy(0, 0, 1, 0, 1)", m -> m.copy(0, 0, 1, 0, 1), STORE));
        sentence(TERMS, "5 SIZE: below 0.", () ->
            Twins.refused(Twins.HOPELESS, "sheet(0, 0, -1)", m -> m.sheet(0, 0, -1), SIZE));
    }
}
