/** Promises 10 to 20: placings. */
final class PlacingEdges extends Told {
    static void run() {
        whole();
        mend();
        moves();
        seat();
        column();
        seats();
        broken();
        witness();
        core();
        critical();
        least();
    }

    private static GridMender all(int h, int w, int wish, int length) {
        GridMender m = new GridMender();
        m.grid(h, w);
        m.wish(wish);
        m.length(length);
        return m;
    }

    private static void whole() {
        sentence(10, "Whether the GRID is WHOLE: 1, 0.", () -> {
            for (int w = 1; w <= 7; w++) {
                for (int n = 1; n <= w; n++) {
                    GridMender m = all(7, w, n, 0);
                    due("whole(), all CELLS GOOD, WISH " + n + " of " + w, m.whole(), 1);
                    m.lots(1, 16);
                    due("whole(), all CELLS FAULTY", m.whole(), 0);
                }
            }
            due("whole(), WISH is W and one FAULTY", drawn(7, 3, ".......", "......#").whole(), 0);
            due("whole(), 1 by 1", drawn(1, 0, ".").whole(), 1);
            due("whole(), 1 by 1 and FAULTY", drawn(1, 3, "#").whole(), 0);
            GridMender again = drawn(1, 0, ".");
            again.fault(0, 0);
            due("whole() after fault()", again.whole(), 0);
            again.fault(0, 0);
            due("whole() after fault() again", again.whole(), 1);
            Twins.tells(Twins.WORKED, "whole()", GridMender::whole, 1);
            Twins.tells(Twins.CRAMMED, "whole()", GridMender::whole, 0);
        });
    }

    private static void mend() {
        sentence(11, "MEND: how many MOVES.", () -> {
            due("mend() of a new object", new GridMender().mend(), 0);
            due("mend(), 1 by 1", drawn(1, 0, ".").mend(), 0);
            GridMender most = drawn(3, 0, "###....", "###....", "###....", "###....", "###....", "###....", "###....");
            due("mend(), all 21 TASKS", most.mend(), 21);
            due("mend() again", most.mend(), 0);
            for (int y = 0; y < 7; y++) {
                dueRow(most, y, 3, 4, 5);
            }
            GridMender seven = all(7, 7, 7, 0);
            due("mend(), 49 TASKS", seven.mend(), 0);
            dueRow(seven, 6, 0, 1, 2, 3, 4, 5, 6);
            Twins.forgets(Twins.ALL, "mend()", GridMender::mend);
        });
        sentence(11, "NOT: it is not WHOLE.", () -> {
            Twins.refused(Twins.HOPELESS, "mend(), nothing LAID", GridMender::mend, NOT);
            Twins.refused(Twins.CRAMMED, "mend(), all CELLS FAULTY", GridMender::mend, NOT);
            GridMender m = drawn(1, 0, "..", "..");
            m.mend();
            m.fault(1, 0);
            m.fault(0, 1);
            due("mend()", m.mend(), NOT);
            dueRow(m, 0, 0);
            dueRow(m, 1, 0);
            due("count(3)", m.count(3), 0);
        });
    }

    private static void moves() {
        sentence(12, "MOVES that MEND would have;", () -> {
            due("moves() of a new object", new GridMender().moves(), 0);
            GridMender m = drawn(2, 1, "#...", "....");
            due("moves(), nothing LAID", m.moves(), 2);
            due("mend()", m.mend(), 2);
            due("moves() after mend()", m.moves(), 0);
            GridMender worked = Twins.WORKED.made();
            Twins.tells(Twins.WORKED, "moves()", GridMender::moves, worked.mend());
        });
        sentence(12, "NONE: it is not WHOLE.", () -> {
            Twins.tells(Twins.HOPELESS, "moves(), nothing LAID", GridMender::moves, NONE);
            Twins.tells(Twins.CRAMMED, "moves(), all CELLS FAULTY", GridMender::moves, NONE);
        });
    }

    private static void seat() {
        sentence(13, "SEAT of a ROW as bits, told by hand, of what is LAID: how many TASKS are at another COLUMN then.", () -> {
            GridMender m = all(7, 7, 3, 0);
            m.mend();
            due("seat(6, 7), the same", m.seat(6, 7), 0);
            due("seat(6, 112), the last COLUMNS", m.seat(6, 112), 3);
            dueRow(m, 6, 4, 5, 6);
            due("seat(6, 113)", m.seat(6, 1 | 32 | 64), 1);
            due("seat(0, 11)", m.seat(0, 1 | 2 | 8), 1);
            dueRow(m, 0, 0, 1, 3);
            dueRow(m, 1, 0, 1, 2);
            GridMender seven = all(1, 7, 7, 0);
            seven.mend();
            due("seat(0, 127), all COLUMNS", seven.seat(0, 127), 0);
            GridMender one = all(1, 1, 1, 0);
            one.mend();
            due("seat(0, 1), the only COLUMN", one.seat(0, 1), 0);
            Twins.forgets(Twins.WORKED, "seat(0, 28)", x -> x.seat(0, 28));
            Twins.changesOnly(Twins.CRAMMED, "seat(6, 120)", x -> x.seat(6, 120), 4, "digest", "broken", "task", "column 6",
                "slot 0 differ", "slot 1 differ", "slot 2 differ", "slot 3 differ", "slot 4 differ", "slot 5 differ");
        });
        sentence(13, "BAD: the ROW,", () -> {
            for (int y : outside(0, 6)) {
                Twins.refused(Twins.CRAMMED, "seat(" + y + ", 15)", m -> m.seat(y, 15), BAD);
            }
            Twins.refused(Twins.WORKED, "seat(4, 7) of H 4", m -> m.seat(4, 7), BAD);
            Twins.refused(Twins.HOPELESS, "seat(1, 1), nothing LAID too: BAD is ahead", m -> m.seat(1, 1), BAD);
            Twins.refused(Twins.HOPELESS, "seat(-1, 1), nothing LAID too", m -> m.seat(-1, 1), BAD);
        });
        sentence(13, "not WISH of its COLUMNS;", () -> {
            int[] bad = {0, 1, 3, 15, 31, 1 | 2 | 32, 32 | 64 | 128, -1, LEAST, LEAST | 3, LEAST | 7, GREATEST, 7 << 29, 7 << 5,
                7 << 3, 7 << 16 | 7};
            for (int bits : bad) {
                Twins.refused(Twins.WORKED, "seat(0, " + bits + ") of WISH 3, W 5", m -> m.seat(0, bits), BAD);
            }
            Twins.refused(Twins.CRAMMED, "seat(0, 240) of WISH 4, W 7", m -> m.seat(0, 240), BAD);
            Twins.refused(Twins.HOPELESS, "seat(0, 0), nothing LAID too: BAD is ahead", m -> m.seat(0, 0), BAD);
            Twins.refused(Twins.HOPELESS, "seat(0, 2), nothing LAID too", m -> m.seat(0, 2), BAD);
        });
        sentence(13, "NOT: nothing is LAID.", () -> {
            Twins.refused(Twins.HOPELESS, "seat(0, 1)", m -> m.seat(0, 1), NOT);
            for (int y = 0; y < 5; y++) {
                int row = y;
                Twins.refused(Twins.FRESH, "seat(" + y + ", 15)", m -> m.seat(row, 15), NOT);
            }
        });
    }

    private static void column() {
        sentence(14, "COLUMN of a TASK as LAID;", () -> {
            GridMender m = drawn(3, 1, "#.#..", ".....");
            m.mend();
            dueRow(m, 0, 1, 3, 4);
            m.seat(1, 4 | 8 | 16);
            dueRow(m, 1, 2, 3, 4);
            GridMender last = all(7, 7, 1, 0);
            last.mend();
            last.seat(6, 64);
            due("column(6, 0)", last.column(6, 0), 6);
            Twins.tells(Twins.WORKED, "column(1, 2)", x -> x.column(1, 2), 4);
        });
        sentence(14, "NONE: nothing is.", () -> {
            GridMender m = new GridMender();
            for (int y = 0; y < 5; y++) {
                for (int j = 0; j < 4; j++) {
                    due("column(" + y + ", " + j + ")", m.column(y, j), NONE);
                }
            }
            Twins.tells(Twins.HOPELESS, "column(0, 0)", x -> x.column(0, 0), NONE);
        });
        sentence(14, "BAD.", () -> {
            for (int n : outside(0, 6)) {
                Twins.refused(Twins.ALL, "column(" + n + ", 0)", m -> m.column(n, 0), BAD);
                Twins.refused(Twins.ALL, "column(0, " + n + ")", m -> m.column(0, n), BAD);
            }
            Twins.refused(Twins.FRESH, "column(5, 0) of H 5, nothing LAID", m -> m.column(5, 0), BAD);
            Twins.refused(Twins.FRESH, "column(0, 4) of WISH 4, nothing LAID", m -> m.column(0, 4), BAD);
            Twins.refused(Twins.WORKED, "column(4, 0) of H 4", m -> m.column(4, 0), BAD);
            Twins.refused(Twins.WORKED, "column(0, 3) of WISH 3", m -> m.column(0, 3), BAD);
            Twins.refused(Twins.CRAMMED, "column(0, 4) of WISH 4", m -> m.column(0, 4), BAD);
            Twins.refused(Twins.HOPELESS, "column(0, 1) of WISH 1", m -> m.column(0, 1), BAD);
        });
    }

    private static void seats() {
        sentence(15, "How many SEATS FIT a ROW.", () -> {
            int[] oneOf = {7, 6, 5, 4, 3, 2, 1};
            for (int n = 1; n <= 7; n++) {
                due("seats(0), WISH " + n + " of 7, LENGTH 0", all(1, 7, n, 0).seats(0), oneOf[n - 1]);
            }
            int[] most = {7, 18, 33, 35, 21, 7, 1};
            for (int n = 1; n <= 7; n++) {
                due("seats(6), WISH " + n + " of 7, LENGTH 3", all(7, 7, n, 3).seats(6), most[n - 1]);
            }
            GridMender m = drawn(1, 0, "#######", "......#");
            due("seats(0), all FAULTY", m.seats(0), 0);
            due("seats(1)", m.seats(1), 6);
            Twins.tells(Twins.WORKED, "seats(1)", x -> x.seats(1), 8);
            Twins.tells(Twins.HOPELESS, "seats(0)", x -> x.seats(0), 0);
        });
        sentence(15, "BAD.", () -> {
            for (int y : outside(0, 6)) {
                Twins.refused(Twins.ALL, "seats(" + y + ")", m -> m.seats(y), BAD);
            }
            Twins.refused(Twins.FRESH, "seats(5) of H 5", m -> m.seats(5), BAD);
            Twins.refused(Twins.WORKED, "seats(4) of H 4", m -> m.seats(4), BAD);
            Twins.refused(Twins.HOPELESS, "seats(1) of H 1", m -> m.seats(1), BAD);
        });
    }

    private static void broken() {
        sentence(16, "BROKEN;", () -> {
            GridMender m = all(7, 7, 7, 0);
            m.mend();
            due("broken() of a PLACING", m.broken(), 0);
            m.lots(1, 16);
            due("broken(), all 49 TASKS at FAULTY CELLS", m.broken(), 49);
            GridMender most = all(7, 7, 2, 0);
            most.mend();
            for (int y = 0; y < 7; y++) {
                most.seat(y, y % 2 == 0 ? 1 | 4 : 8 | 64);
            }
            most.lots(1, 16);
            due("broken(), 14 FAULTY, 7 wide, 12 far", most.broken(), 33);
            Twins.tells(Twins.CRAMMED, "broken()", GridMender::broken, 28);
        });
        sentence(16, "NONE: nothing is LAID.", () -> {
            Twins.tells(Twins.FRESH, "broken()", GridMender::broken, NONE);
            Twins.tells(Twins.HOPELESS, "broken()", GridMender::broken, NONE);
        });
    }

    private static void witness() {
        sentence(17, "WITNESS: the first ROW (part = 0), the last (1);", () -> {
            for (int y = 0; y < 7; y++) {
                GridMender m = all(7, 2, 1, 0);
                m.fault(0, y);
                m.fault(1, y);
                due("witness(0), ROW " + y + " FAULTY", m.witness(0), y);
                due("witness(1), ROW " + y + " FAULTY", m.witness(1), y);
            }
            for (int last = 1; last < 7; last++) {
                GridMender m = all(7, 2, 1, 0);
                m.fault(0, 0);
                m.fault(1, last);
                due("witness(0), ROWS 0 to " + last, m.witness(0), 0);
                due("witness(1), ROWS 0 to " + last, m.witness(1), last);
            }
            Twins.tells(Twins.CRAMMED, "witness(0)", m -> m.witness(0), 0);
            Twins.tells(Twins.CRAMMED, "witness(1)", m -> m.witness(1), 0);
        });
        sentence(17, "NONE.", () -> {
            Twins.tells(Twins.FRESH, "witness(0), WHOLE", m -> m.witness(0), NONE);
            Twins.tells(Twins.FRESH, "witness(1), WHOLE", m -> m.witness(1), NONE);
            Twins.tells(Twins.WORKED, "witness(0), WHOLE", m -> m.witness(0), NONE);
        });
        sentence(17, "BAD.", () -> {
            for (int part : outside(0, 1)) {
                Twins.refused(Twins.ALL, "witness(" + part + ")", m -> m.witness(part), BAD);
            }
        });
    }

    private static void core() {
        sentence(18, "CORE: how many CELLS (0: the GRID is WHOLE).", () -> {
            due("core(), all CELLS GOOD", new GridMender().core(), 0);
            GridMender spare = new GridMender();
            spare.fault(0, 0);
            due("core(), WHOLE with a FAULTY CELL", spare.core(), 0);
            due("core(), 1 by 1", drawn(1, 0, "#").core(), 1);
            // The first WISH less 1 are left out; of the others each that would be the last TASK's is not.
            int[] want = {7, 5, 4, 4, 3, 2, 1};
            for (int n = 1; n <= 7; n++) {
                GridMender m = all(1, 7, n, 3);
                m.lots(1, 16);
                due("core(), a ROW all FAULTY, WISH " + n, m.core(), want[n - 1]);
            }
            Twins.tells(Twins.CRAMMED, "core()", GridMender::core, 4);
            Twins.tells(Twins.WORKED, "core()", GridMender::core, 0);
        });
    }

    private static void critical() {
        sentence(19, "CRITICAL CELLS: how many (0: the GRID is not WHOLE).", () -> {
            due("critical() of a new object", new GridMender().critical(), 0);
            due("critical(), WISH is W", all(7, 7, 7, 0).critical(), 49);
            due("critical(), 1 by 1", drawn(1, 0, ".").critical(), 1);
            due("critical(), 1 by 1 and FAULTY", drawn(1, 0, "#").critical(), 0);
            due("critical(), by the ROW below", drawn(1, 0, "...", ".##").critical(), 2);
            due("critical(), by the ROW above", drawn(1, 0, ".##", "...").critical(), 2);
            due("critical(), by the last ROW alone", drawn(1, 0, "...", "...", "...", "...", "...", "...", "##.").critical(), 7);
            due("critical(), by the first ROW alone", drawn(1, 0, "#.#", "...", "...", "...", "...", "...", "...").critical(), 7);
            due("critical(), the only way", drawn(1, 1, goodAt(0), goodAt(1, 3), goodAt(2)).critical(), 3);
            Twins.tells(Twins.CRAMMED, "critical(), not WHOLE", GridMender::critical, 0);
            Twins.tells(Twins.HOPELESS, "critical(), not WHOLE", GridMender::critical, 0);
        });
    }

    private static void least() {
        sentence(20, "The least LENGTH (0 to 6) by which it were WHOLE (what = 0),", () -> {
            for (int apart = 0; apart <= 6; apart++) {
                due("least(0), ROWS " + apart + " apart", drawn(1, 0, goodAt(0), goodAt(apart)).least(0), apart);
                due("least(0), ROWS " + apart + " apart, LENGTH 3", drawn(1, 3, goodAt(apart), goodAt(0)).least(0), apart);
            }
            for (int between = 0; between <= 5; between++) {
                due("least(0), " + between + " between", drawn(2, 3, goodAt(0, between + 1)).least(0), between);
            }
            Twins.tells(Twins.WORKED, "least(0)", m -> m.least(0), 1);
        });
        sentence(20, "the greatest WISH (1);", () -> {
            for (int w = 1; w <= 7; w++) {
                due("least(1), all CELLS GOOD, W " + w, all(7, w, 1, 0).least(1), w);
            }
            for (int good = 1; good <= 7; good++) {
                GridMender m = all(1, 7, 7, 0);
                for (int x = good; x < 7; x++) {
                    m.fault(x, 0);
                }
                due("least(1), " + good + " GOOD CELLS", m.least(1), good);
            }
            due("least(1) goes by LENGTH 0", drawn(1, 0, ".#.#.#.").least(1), 1);
            due("least(1) goes by LENGTH 1", drawn(1, 1, ".#.#.#.").least(1), 4);
            due("least(1) may be more than WISH", drawn(1, 0, "...").least(1), 3);
            due("least(1) may be less than WISH", drawn(3, 0, "..#").least(1), 2);
        });
        sentence(20, "NONE.", () -> {
            due("least(0), one GOOD CELL for two TASKS", drawn(2, 3, goodAt(3)).least(0), NONE);
            due("least(1), ROWS too far apart", drawn(1, 3, goodAt(0), goodAt(4)).least(1), NONE);
            due("least(1), ROWS near enough", drawn(1, 3, goodAt(0), goodAt(3)).least(1), 1);
            Twins.tells(Twins.CRAMMED, "least(0), all CELLS FAULTY", m -> m.least(0), NONE);
            Twins.tells(Twins.CRAMMED, "least(1), all CELLS FAULTY", m -> m.least(1), NONE);
            Twins.tells(Twins.HOPELESS, "least(1)", m -> m.least(1), NONE);
        });
        sentence(20, "BAD.", () -> {
            for (int what : outside(0, 1)) {
                Twins.refused(Twins.ALL, "least(" + what + ")", m -> m.least(what), BAD);
            }
        });
    }
}
