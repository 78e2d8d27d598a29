/** "Refusals, the first that fits ..": their numbers, their order over all calls, and that they change nothing. */
final class RefusalEdges extends Told {
    static void run() {
        sentence(TERMS, "Refusals, the first that fits, in the order told at each act:", () -> {
            GridMender m = new GridMender();
            m.sheet(0, 0, 1);
            m.sheet(1, 2, 1);
            due("sheet: BAD, SIZE", m.sheet(9, 9, -1), BAD);
            due("lay: BAD, NULL, CAST, INDEX", m.lay(2, 9, 9, 0), BAD);
            due("lay: NULL, CAST, INDEX", m.lay(2, 2, 9, 0), NULL);
            due("lay: CAST, INDEX", m.lay(0, 2, 9, 0), CAST);
            due("lay: INDEX", m.lay(0, 0, 9, 0), INDEX);
            due("copy: BAD, NULL, INDEX", m.copy(2, 9, 9, 9, -9), BAD);
            due("copy: NULL, INDEX", m.copy(2, 9, 1, 9, -9), NULL);
            due("copy: STORE, INDEX", m.copy(0, 9, 1, 9, -9), STORE);
            due("copy: INDEX", m.copy(0, 9, 0, 9, -9), INDEX);
            due("read: BAD, NULL", m.read(9, 2), BAD);
            due("write: BAD, NULL", m.write(9, 2), BAD);
            due("write: NULL, nothing LAID", m.write(0, 2), NULL);
            due("seat: BAD, NOT", m.seat(9, 15), BAD);
            due("seat: BAD, NOT", m.seat(0, 7), BAD);
            due("seat: NOT", m.seat(0, 15), NOT);
            due("keep: INDEX, NOT", m.keep(9), INDEX);
            due("keep: NOT", m.keep(0), NOT);
            due("go: NULL, H, W, WISH as they may be", m.go(0), NULL);
            m.mend();
            m.keep(0);
            m.grid(2, 2);
            due("go: NOT", m.go(0), NOT);
            m.drop(0);
            due("go: NULL, H, W, WISH not as they were", m.go(0), NULL);
            due("differ: NULL, H, W, WISH not as they were", m.differ(0), NULL);
        });
        sentence(TERMS, "BAD -2 (a number not as told, no such thing),", () -> {
            due("BAD", GridMender.BAD, -2);
            Twins.refused(Twins.ALL, "grid(8, 8)", m -> m.grid(8, 8), -2);
            Twins.refused(Twins.ALL, "lose(4)", m -> m.lose(4), -2);
        });
        sentence(TERMS, "NULL,", () -> {
            Twins.refused(Twins.WORKED, "lose(3)", m -> m.lose(3), -11);
            Twins.refused(Twins.WORKED, "go(4)", m -> m.go(4), -11);
        });
        sentence(TERMS, "NOT -3 (as told),", () -> {
            due("NOT", GridMender.NOT, -3);
            Twins.refused(Twins.CRAMMED, "mend()", GridMender::mend, -3);
            Twins.refused(Twins.HOPELESS, "mend()", GridMender::mend, -3);
            Twins.refused(Twins.HOPELESS, "seat(0, 1)", m -> m.seat(0, 1), -3);
            Twins.refused(Twins.HOPELESS, "keep(0)", m -> m.keep(0), -3);
            Twins.refused(Twins.HOPELESS, "go(3)", m -> m.go(3), -3);
            Twins.refused(Twins.HOPELESS, "differ(3)", m -> m.differ(3), -3);
        });
        sentence(TERMS, "other FINDINGS.", () -> {
            Twins.refused(Twins.CRAMMED, "lay(0, 0, 60, 0)", m -> m.lay(0, 0, 60, 0), -12);
            Twins.refused(Twins.CRAMMED, "lay(0, 1, 0, 0)", m -> m.lay(0, 1, 0, 0), -13);
            Twins.refused(Twins.CRAMMED, "copy(0, 0, 1, 0, 60)", m -> m.copy(0, 0, 1, 0, 60), -14);
            Twins.refused(Twins.CRAMMED, "sheet(0, 0, -60)", m -> m.sheet(0, 0, -60), -15);
        });
        sentence(TERMS, "They change nothing (FINDINGS but count() 8).", () -> {
            for (Twins.State state : Twins.ALL) {
                Twins.refusedInSecret(state, "many refusals, the latest INDEX", RefusalEdges::refuseAll, INDEX, 2);
            }
        });
        sentence(TERMS, "Where the answer is a long, a refusal -x is the least long and x more.", () -> {
            // Promises 22 and 34 name no refusal, so that cut() and digest() answer as told in every state.
            for (Twins.State state : Twins.ALL) {
                for (int bits = 0; bits < 16; bits++) {
                    String which = " of " + state.name + " with SIDES " + bits;
                    GridMender m = state.made();
                    m.sides(bits);
                    due("cut()" + which, m.cut(), cutByCells(m));
                    GridMender like = state.made();
                    like.sides(bits);
                    due("digest()" + which, m.digest(), SheetEdges.digestByParts(like));
                }
            }
        });
    }

    private static long cutByCells(GridMender m) {
        int w = Twins.widthOf(m);
        int cells = m.count(0);
        long set = 0;
        for (int number = 0; number < cells; number++) {
            set |= (long) m.cell(number % w, number / w, 4) << number;
        }
        return set;
    }

    private static long refuseAll(GridMender m) {
        m.grid(0, 1);
        m.wish(0);
        m.length(-1);
        m.sides(-1);
        m.fault(-1, 0);
        m.lots(1, 17);
        m.read(-1, 0);
        m.cell(0, 0, 5);
        m.seat(-1, 1);
        m.column(0, -1);
        m.seats(-1);
        m.witness(2);
        m.least(2);
        m.sheet(0, 0, 61);
        m.sheet(0, 0, -1);
        m.lose(-1);
        m.lay(0, 3, 0, 1);
        m.get(0, 3, 0);
        m.copy(0, 0, 4, 0, 1);
        m.write(-1, 0);
        m.count(9);
        m.keep(-1);
        m.drop(6);
        m.differ(6);
        return m.go(6);
    }
}
