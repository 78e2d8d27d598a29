/** Promises 23 to 26: slots. */
final class SlotEdges extends Told {
    static void run() {
        keep();
        go();
        differ();
        drop();
    }

    private static void keep() {
        sentence(23, "What is LAID is kept in a SLOT: how many SLOTS are not EMPTY.", () -> {
            GridMender m = new GridMender();
            m.mend();
            for (int s = 5; s >= 0; s--) {
                due("keep(" + s + ")", m.keep(s), 6 - s);
            }
            due("keep(3), all kept", m.keep(3), 6);
            m.seat(0, 30);
            due("differ(3): kept as it was", m.differ(3), 4);
            due("keep(3) over", m.keep(3), 6);
            due("differ(3)", m.differ(3), 0);
            due("differ(2): another SLOT stays", m.differ(2), 4);
            Twins.changesOnly(Twins.WORKED, "keep(0) over", x -> x.keep(0), 3, "digest", "slot 0");
            Twins.changesOnly(Twins.WORKED, "keep(4)", x -> x.keep(4), 4, "digest", "count 4", "slot 4");
            Twins.changesOnly(Twins.CRAMMED, "keep(5), all kept", x -> x.keep(5), 6, "digest", "slot 5");
        });
        sentence(23, "INDEX;", () -> {
            for (int s : outside(0, 5)) {
                Twins.refused(Twins.ALL, "keep(" + s + ")", m -> m.keep(s), INDEX);
            }
            Twins.refused(Twins.FRESH, "keep(6), nothing LAID too: INDEX is ahead", m -> m.keep(6), INDEX);
        });
        sentence(23, "NOT: nothing is LAID.", () -> {
            for (int s = 0; s < 6; s++) {
                int slot = s;
                Twins.refused(Twins.FRESH, "keep(" + s + ")", m -> m.keep(slot), NOT);
                Twins.refused(Twins.HOPELESS, "keep(" + s + ")", m -> m.keep(slot), NOT);
            }
        });
    }

    private static void go() {
        sentence(24, "What a SLOT keeps is LAID: BROKEN.", () -> {
            GridMender m = drawn(2, 1, "....", "....");
            m.mend();
            m.keep(5);
            m.seat(1, 12);
            m.keep(0);
            due("go(5)", m.go(5), 0);
            dueRow(m, 1, 0, 1);
            due("go(0), two far", m.go(0), 2);
            dueRow(m, 1, 2, 3);
            m.lots(1, 16);
            due("go(5), all CELLS FAULTY", m.go(5), 4);
            m.seat(0, 12);
            m.mend();
            due("go(5): what is kept is not changed by seat()", m.go(5), 4);
            dueRow(m, 0, 0, 1);
            m.wish(2);
            due("count(5), nothing LAID", m.count(5), 0);
            due("go(0), nothing LAID", m.go(0), 6);
            due("count(5)", m.count(5), 1);
            due("count(4): the SLOTS stay kept", m.count(4), 2);
            Twins.forgets(Twins.WORKED, "go(2)", x -> x.go(2));
        });
        sentence(24, "INDEX;", () -> {
            for (int s : outside(0, 5)) {
                Twins.refused(Twins.ALL, "go(" + s + ")", m -> m.go(s), INDEX);
            }
        });
        sentence(24, "NULL;", () -> {
            for (int s = 0; s < 6; s++) {
                int slot = s;
                Twins.refused(Twins.FRESH, "go(" + s + ")", m -> m.go(slot), NULL);
            }
            for (int s : new int[] {1, 3, 4}) {
                Twins.refused(Twins.WORKED, "go(" + s + ")", m -> m.go(s), NULL);
            }
            Twins.refused(Twins.HOPELESS, "go(2)", m -> m.go(2), NULL);
        });
        sentence(24, "NOT: H, W, WISH are not as they were.", () -> {
            Twins.refused(Twins.WORKED, "go(0), all of them", m -> m.go(0), NOT);
            Twins.refused(Twins.HOPELESS, "go(3), nothing LAID", m -> m.go(3), NOT);
            dueUnlikeShapes("go", GridMender::go);
        });
    }

    private interface Asked {
        int answer(GridMender m, int s);
    }

    /** Each of H, W, WISH by itself one less, one more, and all as they were again. */
    private static void dueUnlikeShapes(String call, Asked asked) {
        int[][] unlike = {{3, 4, 3}, {5, 4, 3}, {4, 3, 3}, {4, 5, 3}, {4, 4, 2}, {4, 4, 4}, {1, 7, 3}, {7, 1, 1}};
        for (int[] shape : unlike) {
            String of = call + "(2), H " + shape[0] + ", W " + shape[1] + ", WISH " + shape[2];
            GridMender m = kept443();
            m.grid(shape[0], shape[1]);
            m.wish(shape[2]);
            due(of, asked.answer(m, 2), NOT);
            due("count(5) after " + of, m.count(5), 0);
            due("count(8) after " + of, m.count(8), 0);
            m.mend();
            due(of + ", LAID", asked.answer(m, 2), NOT);
            due("column(0, 0) after " + of, m.column(0, 0), 0);
            m.grid(4, 4);
            m.wish(3);
            due(call + "(2), as they were", asked.answer(m, 2), 0);
        }
        GridMender turned = drawn(2, 0, "...", "...");
        turned.mend();
        turned.keep(2);
        turned.grid(3, 2);
        due(call + "(2), H and W the other way", asked.answer(turned, 2), NOT);
    }

    private static GridMender kept443() {
        GridMender m = drawn(3, 1, "....", "....", "....", "....");
        m.mend();
        m.keep(2);
        return m;
    }

    private static void differ() {
        sentence(25, "MOVES from what is LAID to what a SLOT keeps.", () -> {
            GridMender m = new GridMender();
            m.grid(7, 7);
            m.wish(3);
            m.mend();
            m.keep(5);
            due("differ(5), none", m.differ(5), 0);
            for (int y = 0; y < 7; y++) {
                m.seat(y, 56);
            }
            due("differ(5), all 21", m.differ(5), 21);
            m.wish(3);
            due("differ(5), nothing LAID: TASK j at COLUMN j", m.differ(5), 0);
            due("count(5)", m.count(5), 0);
            Twins.tells(Twins.WORKED, "differ(5)", x -> x.differ(5), 2);
        });
        sentence(25, "INDEX;", () -> {
            for (int s : outside(0, 5)) {
                Twins.refused(Twins.ALL, "differ(" + s + ")", m -> m.differ(s), INDEX);
            }
        });
        sentence(25, "NULL;", () -> {
            for (int s = 0; s < 6; s++) {
                int slot = s;
                Twins.refused(Twins.FRESH, "differ(" + s + ")", m -> m.differ(slot), NULL);
            }
            Twins.refused(Twins.WORKED, "differ(3)", m -> m.differ(3), NULL);
            Twins.refused(Twins.HOPELESS, "differ(5)", m -> m.differ(5), NULL);
        });
        sentence(25, "NOT: H, W, WISH are not as they were.", () -> {
            Twins.refused(Twins.WORKED, "differ(0), all of them", m -> m.differ(0), NOT);
            Twins.refused(Twins.HOPELESS, "differ(3), nothing LAID", m -> m.differ(3), NOT);
            dueUnlikeShapes("differ", GridMender::differ);
        });
    }

    private static void drop() {
        sentence(26, "A SLOT is EMPTY: how many are not.", () -> {
            GridMender m = new GridMender();
            m.mend();
            for (int s = 0; s < 6; s++) {
                m.keep(s);
            }
            for (int s = 0; s < 6; s++) {
                due("drop(" + s + ")", m.drop(s), 5 - s);
                due("go(" + s + ")", m.go(s), NULL);
            }
            due("count(5): it stays LAID", m.count(5), 1);
            due("keep(0) again", m.keep(0), 1);
            Twins.changesOnly(Twins.WORKED, "drop(0), of another GRID", x -> x.drop(0), 2, "digest", "count 4", "slot 0");
            Twins.changesOnly(Twins.HOPELESS, "drop(3), nothing LAID", x -> x.drop(3), 0, "digest", "count 4", "slot 3");
            Twins.changesOnly(Twins.CRAMMED, "drop(5)", x -> x.drop(5), 5, "digest", "count 4", "slot 5");
        });
        sentence(26, "INDEX;", () -> {
            for (int s : outside(0, 5)) {
                Twins.refused(Twins.ALL, "drop(" + s + ")", m -> m.drop(s), INDEX);
            }
        });
        sentence(26, "NULL.", () -> {
            for (int s = 0; s < 6; s++) {
                int slot = s;
                Twins.refused(Twins.FRESH, "drop(" + s + ")", m -> m.drop(slot), NULL);
            }
            Twins.refused(Twins.WORKED, "drop(4)", m -> m.drop(4), NULL);
            Twins.refused(Twins.HOPELESS, "drop(0)", m -> m.drop(0), NULL);
        });
    }
}
