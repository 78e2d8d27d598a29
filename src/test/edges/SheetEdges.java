import java.math.BigInteger;
import java.util.ArrayList;
import java.util.List;

/** Promises 27 to 34: sheets, numbers and the digest. */
final class SheetEdges extends Told {
    static void run() {
        sheet();
        lose();
        lay();
        get();
        copy();
        write();
        count();
        digest();
    }

    private static void sheet() {
        sentence(27, "A SHEET is a new row of a FORM with n items: n.", () -> {
            for (int s = 0; s < 4; s++) {
                for (int form = 0; form < 3; form++) {
                    for (int n : new int[] {0, 1, 59, 60}) {
                        GridMender m = new GridMender();
                        due("sheet(" + s + ", " + form + ", " + n + ")", m.sheet(s, form, n), n);
                        due("lay, the last item", m.lay(s, form, n - 1, 3), n == 0 ? INDEX : 1);
                        due("lay, one too far", m.lay(s, form, n, 3), INDEX);
                        due("lose(" + s + ")", m.lose(s), n);
                    }
                }
            }
            GridMender m = new GridMender();
            m.sheet(1, 2, 60);
            m.lay(1, 2, 0, -1);
            m.lay(1, 2, 59, -1);
            due("sheet(1, 2, 60) again", m.sheet(1, 2, 60), 60);
            due("get(1, 2, 0): a new row", m.get(1, 2, 0), 0);
            due("get(1, 2, 59): a new row", m.get(1, 2, 59), 0);
            m.lay(1, 2, 59, -1);
            m.sheet(1, 0, 1);
            due("get(1, 0, 0) of another FORM", m.get(1, 0, 0), 0);
            m.sheet(1, 1, 60);
            due("get(1, 1, 59): longer again", m.get(1, 1, 59), 0);
            Twins.changesOnly(Twins.CRAMMED, "sheet(2, 0, 0)", x -> x.sheet(2, 0, 0), 0, "sheet 2");
        });
        sentence(27, "BAD: SHEET,", () -> {
            for (int s : outside(0, 3)) {
                Twins.refused(Twins.ALL, "sheet(" + s + ", 0, 1)", m -> m.sheet(s, 0, 1), BAD);
                Twins.refused(Twins.WORKED, "sheet(" + s + ", 0, -1): BAD is ahead of SIZE", m -> m.sheet(s, 0, -1), BAD);
            }
        });
        sentence(27, "FORM,", () -> {
            for (int form : outside(0, 2)) {
                Twins.refused(Twins.ALL, "sheet(0, " + form + ", 1)", m -> m.sheet(0, form, 1), BAD);
                Twins.refused(Twins.WORKED, "sheet(0, " + form + ", -1): BAD is ahead of SIZE", m -> m.sheet(0, form, -1), BAD);
            }
        });
        sentence(27, "above 60;", () -> {
            for (int n : new int[] {61, 62, 64, 100, 1 << 16, GREATEST}) {
                Twins.refused(Twins.ALL, "sheet(0, 0, " + n + ")", m -> m.sheet(0, 0, n), BAD);
                Twins.refused(Twins.CRAMMED, "sheet(3, 2, " + n + ")", m -> m.sheet(3, 2, n), BAD);
            }
        });
        sentence(27, "SIZE.", () -> {
            for (int n : new int[] {-1, -2, -60, -61, LEAST, LEAST + 1}) {
                Twins.refused(Twins.ALL, "sheet(0, 0, " + n + ")", m -> m.sheet(0, 0, n), SIZE);
                Twins.refused(Twins.CRAMMED, "sheet(3, 2, " + n + ")", m -> m.sheet(3, 2, n), SIZE);
            }
        });
    }

    private static void lose() {
        sentence(28, "It is LOST: how many items it had.", () -> {
            for (int n : new int[] {0, 1, 60}) {
                GridMender m = new GridMender();
                m.sheet(3, 1, n);
                due("lose(3) of " + n, m.lose(3), n);
                due("lay(3, 1, 0, 1)", m.lay(3, 1, 0, 1), NULL);
                due("copy(3, 0, 3, 0, 0)", m.copy(3, 0, 3, 0, 0), NULL);
                due("read(0, 3)", m.read(0, 3), NULL);
                due("write(0, 3)", m.write(0, 3), NULL);
                due("lose(3) again", m.lose(3), NULL);
            }
            Twins.changesOnly(Twins.CRAMMED, "lose(3)", m -> m.lose(3), 60, "sheet 3");
            Twins.changesOnly(Twins.WORKED, "lose(0)", m -> m.lose(0), 5, "sheet 0");
        });
        sentence(28, "BAD;", () -> {
            for (int s : outside(0, 3)) {
                Twins.refused(Twins.ALL, "lose(" + s + ")", m -> m.lose(s), BAD);
            }
        });
        sentence(28, "NULL.", () -> {
            for (int s = 0; s < 4; s++) {
                int lost = s;
                Twins.refused(Twins.FRESH, "lose(" + s + ")", m -> m.lose(lost), NULL);
            }
            Twins.refused(Twins.WORKED, "lose(3)", m -> m.lose(3), NULL);
            Twins.refused(Twins.HOPELESS, "lose(1), LOST again", m -> m.lose(1), NULL);
        });
    }

    private static void lay() {
        sentence(29, "Item i, treated as of a FORM, becomes v (a truth true, if v is odd, a char the lowest bits): 1.", () -> {
            int[] values = {0, 1, 2, -1, -2, -3, 65535, 65536, 65537, 32768, -32768, GREATEST, LEAST, LEAST + 1};
            int[] truths = {0, 1, 0, 1, 0, 1, 1, 0, 1, 0, 0, 1, 0, 1};
            int[] chars = {0, 1, 2, 65535, 65534, 65533, 65535, 0, 1, 32768, 32768, 65535, 0, 1};
            int[][] want = {truths, chars, values};
            for (int form = 0; form < 3; form++) {
                GridMender m = new GridMender();
                m.sheet(2, form, 60);
                for (int k = 0; k < values.length; k++) {
                    int i = k % 2 == 0 ? 0 : 59;
                    due("lay(2, " + form + ", " + i + ", " + values[k] + ")", m.lay(2, form, i, values[k]), 1);
                    due("get(2, " + form + ", " + i + ")", m.get(2, form, i), want[form][k]);
                    due("get(2, " + form + ", 30): others stay", m.get(2, form, 30), 0);
                }
            }
            Twins.changesOnly(Twins.CRAMMED, "lay(3, 2, 59, 7)", m -> m.lay(3, 2, 59, 7), 1, "sheet 3 item 59");
            Twins.changesOnly(Twins.WORKED, "lay(0, 0, 0, 5)", m -> m.lay(0, 0, 0, 5), 1, "sheet 0 item 0");
        });
        sentence(29, "BAD;", () -> {
            for (int s : outside(0, 3)) {
                Twins.refused(Twins.ALL, "lay(" + s + ", 0, 0, 1)", m -> m.lay(s, 0, 0, 1), BAD);
            }
            for (int form : outside(0, 2)) {
                Twins.refused(Twins.ALL, "lay(0, " + form + ", 0, 1)", m -> m.lay(0, form, 0, 1), BAD);
                Twins.refused(Twins.WORKED, "lay(3, " + form + ", 0, 1), LOST too: BAD is ahead", m -> m.lay(3, form, 0, 1), BAD);
                Twins.refused(Twins.WORKED, "lay(0, " + form + ", 9, 1), no item too", m -> m.lay(0, form, 9, 1), BAD);
            }
        });
        sentence(29, "NULL;", () -> {
            for (int form = 0; form < 3; form++) {
                int asked = form;
                Twins.refused(Twins.FRESH, "lay(0, " + form + ", 0, 1)", m -> m.lay(0, asked, 0, 1), NULL);
                Twins.refused(Twins.WORKED, "lay(3, " + form + ", 0, 1)", m -> m.lay(3, asked, 0, 1), NULL);
                Twins.refused(Twins.HOPELESS, "lay(1, " + form + ", 9, 1), LOST again, no item too: NULL is ahead",
                    m -> m.lay(1, asked, 9, 1), NULL);
                Twins.refused(Twins.HOPELESS, "lay(1, " + form + ", -1, 1)", m -> m.lay(1, asked, -1, 1), NULL);
            }
        });
        sentence(29, "CAST;", () -> {
            for (int s = 0; s < 3; s++) {
                for (int form = 0; form < 3; form++) {
                    int sheet = s;
                    int asked = form;
                    if (form != s) {
                        Twins.refused(Twins.WORKED, "lay(" + s + ", " + form + ", 0, 1)", m -> m.lay(sheet, asked, 0, 1), CAST);
                        Twins.refused(Twins.WORKED, "lay(" + s + ", " + form + ", 60, 1), no item too: CAST is ahead",
                            m -> m.lay(sheet, asked, 60, 1), CAST);
                        Twins.refused(Twins.WORKED, "lay(" + s + ", " + form + ", -1, 1)", m -> m.lay(sheet, asked, -1, 1), CAST);
                    }
                }
            }
        });
        sentence(29, "INDEX.", () -> {
            for (int i : outside(0, 59)) {
                for (int s = 0; s < 4; s++) {
                    int sheet = s;
                    int form = Math.min(s, 2);
                    Twins.refused(Twins.CRAMMED, "lay(" + s + ", " + form + ", " + i + ", 1)", m -> m.lay(sheet, form, i, 1), INDEX);
                }
            }
            Twins.refused(Twins.WORKED, "lay(0, 0, 5, 1) of 5 items", m -> m.lay(0, 0, 5, 1), INDEX);
            Twins.refused(Twins.WORKED, "lay(1, 1, 7, 1) of 7 items", m -> m.lay(1, 1, 7, 1), INDEX);
            Twins.refused(Twins.WORKED, "lay(2, 2, 8, 1) of 8 items", m -> m.lay(2, 2, 8, 1), INDEX);
            GridMender none = new GridMender();
            none.sheet(0, 2, 0);
            due("lay(0, 2, 0, 1) of no items", none.lay(0, 2, 0, 1), INDEX);
        });
    }

    private static void get() {
        sentence(30, "Item i of it (of a truth 1, 0).", () -> {
            GridMender m = Twins.WORKED.made();
            dueItems(m, 0, 0, 0, 1, 0, 0, 1);
            dueItems(m, 1, 1, 65535, 0, 0, 0, 0, 0, 9);
            dueItems(m, 2, 2, -3000, -2000, -1000, 0, 1000, 2000, 3000, 4000);
            due("count(8)", m.count(8), 5);
            Twins.tells(Twins.CRAMMED, "get(3, 2, 59)", x -> x.get(3, 2, 59), 9);
            GridMender least = new GridMender();
            least.sheet(0, 2, 1);
            least.lay(0, 2, 0, LEAST);
            due("get(0, 2, 0): the least int is no refusal", least.get(0, 2, 0), LEAST);
            due("count(8) tells", least.count(8), 0);
        });
        sentence(30, "BAD: the least int;", () -> {
            for (int s : outside(0, 3)) {
                Twins.refused(Twins.ALL, "get(" + s + ", 0, 0)", m -> m.get(s, 0, 0), LEAST);
            }
            for (int form : outside(0, 2)) {
                Twins.refused(Twins.ALL, "get(0, " + form + ", 0)", m -> m.get(0, form, 0), LEAST);
                Twins.refused(Twins.WORKED, "get(3, " + form + ", 0), LOST too", m -> m.get(3, form, 0), LEAST);
                Twins.refused(Twins.WORKED, "get(0, " + form + ", 9), no item too", m -> m.get(0, form, 9), LEAST);
            }
        });
        sentence(30, "so are NULL,", () -> {
            for (int form = 0; form < 3; form++) {
                int asked = form;
                Twins.refusedInSecret(Twins.FRESH, "get(3, " + form + ", 0)", m -> m.get(3, asked, 0), LEAST, 1);
                Twins.refusedInSecret(Twins.WORKED, "get(3, " + form + ", 0)", m -> m.get(3, asked, 0), LEAST, 1);
                Twins.refusedInSecret(Twins.WORKED, "get(3, " + form + ", -1), no item too", m -> m.get(3, asked, -1), LEAST, 1);
                Twins.refusedInSecret(Twins.HOPELESS, "get(1, " + form + ", 2)", m -> m.get(1, asked, 2), LEAST, 1);
            }
        });
        sentence(30, "CAST,", () -> {
            for (int s = 0; s < 3; s++) {
                for (int form = 0; form < 3; form++) {
                    int sheet = s;
                    int asked = form;
                    if (form != s) {
                        String call = "get(" + s + ", " + form + ", ";
                        Twins.refusedInSecret(Twins.WORKED, call + "0)", m -> m.get(sheet, asked, 0), LEAST, 3);
                        Twins.refusedInSecret(Twins.WORKED, call + "60), no item too", m -> m.get(sheet, asked, 60), LEAST, 3);
                        Twins.refusedInSecret(Twins.WORKED, call + "-1)", m -> m.get(sheet, asked, -1), LEAST, 3);
                    }
                }
            }
        });
        sentence(30, "INDEX (count() 8 tells).", () -> {
            for (int i : outside(0, 59)) {
                for (int s = 0; s < 4; s++) {
                    int sheet = s;
                    int form = Math.min(s, 2);
                    String call = "get(" + s + ", " + form + ", " + i + ")";
                    Twins.refusedInSecret(Twins.CRAMMED, call, m -> m.get(sheet, form, i), LEAST, 2);
                }
            }
            Twins.refusedInSecret(Twins.WORKED, "get(0, 0, 5) of 5 items", m -> m.get(0, 0, 5), LEAST, 2);
            Twins.refusedInSecret(Twins.WORKED, "get(1, 1, 7) of 7 items", m -> m.get(1, 1, 7), LEAST, 2);
            Twins.refusedInSecret(Twins.WORKED, "get(2, 2, 8) of 8 items", m -> m.get(2, 2, 8), LEAST, 2);
            GridMender none = new GridMender();
            none.sheet(0, 0, 0);
            due("get(0, 0, 0) of no items", none.get(0, 0, 0), LEAST);
            due("count(8)", none.count(8), 2);
        });
    }

    private static GridMender numbered() {
        GridMender m = new GridMender();
        m.sheet(0, 2, 6);
        m.sheet(1, 2, 4);
        for (int i = 0; i < 6; i++) {
            m.lay(0, 2, i, 10 + i);
        }
        return m;
    }

    private static void copy() {
        sentence(31, "n items of SHEET s, from i on, come to SHEET t (perhaps s, as they were), from j on: 1.", () -> {
            GridMender up = numbered();
            due("copy(0, 0, 0, 1, 5) to itself, upwards", up.copy(0, 0, 0, 1, 5), 1);
            dueItems(up, 0, 2, 10, 10, 11, 12, 13, 14);
            GridMender down = numbered();
            due("copy(0, 1, 0, 0, 5) to itself, downwards", down.copy(0, 1, 0, 0, 5), 1);
            dueItems(down, 0, 2, 11, 12, 13, 14, 15, 15);
            GridMender all = numbered();
            due("copy(0, 0, 0, 0, 6), all to itself", all.copy(0, 0, 0, 0, 6), 1);
            dueItems(all, 0, 2, 10, 11, 12, 13, 14, 15);
            GridMender other = numbered();
            due("copy(0, 2, 1, 0, 4), to the last of both", other.copy(0, 2, 1, 0, 4), 1);
            dueItems(other, 1, 2, 12, 13, 14, 15);
            dueItems(other, 0, 2, 10, 11, 12, 13, 14, 15);
            due("copy(0, 5, 1, 3, 1), the last", other.copy(0, 5, 1, 3, 1), 1);
            due("copy(1, 0, 0, 5, 1), back", other.copy(1, 0, 0, 5, 1), 1);
            dueItems(other, 0, 2, 10, 11, 12, 13, 14, 12);
            for (int form = 0; form < 3; form++) {
                GridMender full = new GridMender();
                full.sheet(0, form, 60);
                full.sheet(3, form, 60);
                full.lay(0, form, 59, 1);
                due("copy(0, 0, 3, 0, 60)", full.copy(0, 0, 3, 0, 60), 1);
                due("get(3, " + form + ", 59)", full.get(3, form, 59), 1);
                due("get(3, " + form + ", 58)", full.get(3, form, 58), 0);
            }
            Twins.changesOnly(Twins.CRAMMED, "copy(2, 0, 3, 59, 1)", m -> m.copy(2, 0, 3, 59, 1), 1, "sheet 3 item 59");
            GridMender none = numbered();
            due("copy(0, 0, 1, 0, 0), of 0 items", none.copy(0, 0, 1, 0, 0), 1);
            dueItems(none, 1, 2, 0, 0, 0, 0);
            Twins.tells(Twins.WORKED, "copy(2, 8, 2, 8, 0), of 0 items at the end", m -> m.copy(2, 8, 2, 8, 0), 1);
            Twins.tells(Twins.CRAMMED, "copy(2, 60, 3, 60, 0), of 0 items at the end", m -> m.copy(2, 60, 3, 60, 0), 1);
            GridMender empty = new GridMender();
            empty.sheet(0, 1, 0);
            empty.sheet(1, 1, 0);
            due("copy(0, 0, 1, 0, 0), SHEETS of 0 items", empty.copy(0, 0, 1, 0, 0), 1);
            due("copy(0, 0, 1, 0, 1), SHEETS of 0 items", empty.copy(0, 0, 1, 0, 1), INDEX);
        });
        sentence(31, "BAD: the SHEETS;", () -> {
            for (int s : outside(0, 3)) {
                Twins.refused(Twins.ALL, "copy(" + s + ", 0, 0, 0, 1)", m -> m.copy(s, 0, 0, 0, 1), BAD);
                Twins.refused(Twins.ALL, "copy(0, 0, " + s + ", 0, 1)", m -> m.copy(0, 0, s, 0, 1), BAD);
                Twins.refused(Twins.WORKED, "copy(3, 0, " + s + ", 0, 1), LOST too: BAD is ahead", m -> m.copy(3, 0, s, 0, 1), BAD);
                Twins.refused(Twins.WORKED, "copy(" + s + ", 0, 3, 0, 1), LOST too", m -> m.copy(s, 0, 3, 0, 1), BAD);
                Twins.refused(Twins.WORKED, "copy(0, -1, " + s + ", 0, -1), no item too", m -> m.copy(0, -1, s, 0, -1), BAD);
            }
        });
        sentence(31, "NULL: s, t;", () -> {
            Twins.refused(Twins.WORKED, "copy(3, 0, 0, 0, 1)", m -> m.copy(3, 0, 0, 0, 1), NULL);
            Twins.refused(Twins.WORKED, "copy(0, 0, 3, 0, 1)", m -> m.copy(0, 0, 3, 0, 1), NULL);
            Twins.refused(Twins.WORKED, "copy(3, 0, 3, 0, 0)", m -> m.copy(3, 0, 3, 0, 0), NULL);
            Twins.refused(Twins.WORKED, "copy(3, -1, 2, 99, -1), no item too: NULL is ahead", m -> m.copy(3, -1, 2, 99, -1), NULL);
            Twins.refused(Twins.WORKED, "copy(2, -1, 3, 99, -1), no item too", m -> m.copy(2, -1, 3, 99, -1), NULL);
            Twins.refused(Twins.FRESH, "copy(0, 0, 1, 0, 0)", m -> m.copy(0, 0, 1, 0, 0), NULL);
            Twins.refused(Twins.HOPELESS, "copy(1, 0, 1, 0, 1), LOST again", m -> m.copy(1, 0, 1, 0, 1), NULL);
        });
        sentence(31, "STORE;", () -> {
            for (int s = 0; s < 3; s++) {
                for (int t = 0; t < 3; t++) {
                    int from = s;
                    int to = t;
                    if (s != t) {
                        String call = "copy(" + s + ", .., " + t + ", ..) ";
                        Twins.refused(Twins.WORKED, call + "of 1 item", m -> m.copy(from, 0, to, 0, 1), STORE);
                        Twins.refused(Twins.WORKED, call + "of 0 items", m -> m.copy(from, 0, to, 0, 0), STORE);
                        Twins.refused(Twins.WORKED, call + "of -1, no item too: STORE is ahead", m -> m.copy(from, 0, to, 0, -1), STORE);
                        Twins.refused(Twins.WORKED, call + "from 99", m -> m.copy(from, 99, to, 0, 1), STORE);
                        Twins.refused(Twins.WORKED, call + "to -1", m -> m.copy(from, 0, to, -1, 1), STORE);
                    }
                }
            }
        });
        sentence(31, "INDEX: below 0,", () -> {
            int[][] below = {{-1, 0, 1}, {0, -1, 1}, {0, 0, -1}, {LEAST, 0, 1}, {0, LEAST, 1}, {0, 0, LEAST}, {-1, 0, 0},
                {0, -1, 0}, {-1, -1, -1}, {8, 0, -1}, {0, 8, -1}, {-1, 0, 2}, {-1, 0, GREATEST}, {LEAST, LEAST, LEAST}};
            dueIndex(below);
        });
        sentence(31, "not so many", () -> {
            int[][] tooMany = {{0, 0, 9}, {1, 0, 8}, {0, 1, 8}, {7, 0, 2}, {0, 7, 2}, {8, 0, 1}, {0, 8, 1}, {0, 0, GREATEST},
                {1, 0, GREATEST}, {0, 1, GREATEST}, {8, 8, GREATEST}, {GREATEST, 0, 1}, {0, GREATEST, 1},
                {GREATEST, GREATEST, GREATEST}, {1 << 30, 0, 1 << 30}, {0, 0, 1 << 16}, {2, 2, GREATEST - 1}};
            dueIndex(tooMany);
            Twins.refused(Twins.CRAMMED, "copy(2, 0, 3, 0, 61)", m -> m.copy(2, 0, 3, 0, 61), INDEX);
            Twins.refused(Twins.CRAMMED, "copy(2, 1, 3, 0, 60)", m -> m.copy(2, 1, 3, 0, 60), INDEX);
            Twins.refused(Twins.CRAMMED, "copy(2, 0, 3, 1, 60)", m -> m.copy(2, 0, 3, 1, 60), INDEX);
            GridMender unlike = numbered();
            due("copy(0, 0, 1, 0, 5): so many of s, not of t", unlike.copy(0, 0, 1, 0, 5), INDEX);
            due("copy(1, 0, 0, 0, 5): so many of t, not of s", unlike.copy(1, 0, 0, 0, 5), INDEX);
            dueItems(unlike, 0, 2, 10, 11, 12, 13, 14, 15);
            dueItems(unlike, 1, 2, 0, 0, 0, 0);
        });
        sentence(31, "(with n 0, too, if i or j is above how many there are).", () -> {
            int[][] above = {{9, 0, 0}, {0, 9, 0}, {9, 9, 0}, {GREATEST, 0, 0}, {0, GREATEST, 0}, {10, 10, 0}};
            dueIndex(above);
            Twins.refused(Twins.CRAMMED, "copy(2, 61, 3, 0, 0)", m -> m.copy(2, 61, 3, 0, 0), INDEX);
            Twins.refused(Twins.CRAMMED, "copy(2, 0, 3, 61, 0)", m -> m.copy(2, 0, 3, 61, 0), INDEX);
            GridMender empty = new GridMender();
            empty.sheet(0, 0, 0);
            due("copy(0, 1, 0, 0, 0), a SHEET of 0 items", empty.copy(0, 1, 0, 0, 0), INDEX);
            due("copy(0, 0, 0, 1, 0), a SHEET of 0 items", empty.copy(0, 0, 0, 1, 0), INDEX);
            due("copy(0, 0, 0, 0, 0), a SHEET of 0 items", empty.copy(0, 0, 0, 0, 0), 1);
        });
    }

    /** Within the SHEET 2 of the worked one, that has 8 items. */
    private static void dueIndex(int[][] all) {
        for (int[] a : all) {
            String call = "copy(2, " + a[0] + ", 2, " + a[1] + ", " + a[2] + ") of 8 items";
            Twins.refused(Twins.WORKED, call, m -> m.copy(2, a[0], 2, a[1], a[2]), INDEX);
        }
    }

    private static GridMender seated() {
        GridMender m = new GridMender();
        m.grid(7, 7);
        m.wish(3);
        m.mend();
        m.seat(6, 8 | 32 | 64);
        return m;
    }

    private static void write() {
        sentence(32, "COLUMNS of TASKS of a ROW, as LAID, come to a SHEET from item 0 on (as by lay()),", () -> {
            int[][] want = {{1, 1, 0, 1}, {3, 5, 6, 1}, {3, 5, 6, 1}};
            for (int form = 0; form < 3; form++) {
                GridMender m = seated();
                m.sheet(0, form, 4);
                for (int i = 0; i < 4; i++) {
                    m.lay(0, form, i, 1);
                }
                due("write(6, 0) of FORM " + form, m.write(6, 0), 3);
                dueItems(m, 0, form, want[form]);
                due("write(0, 0) of FORM " + form, m.write(0, 0), 3);
                dueItems(m, 0, form, 0, 1, form == 0 ? 0 : 2, 1);
            }
            Twins.changesOnly(Twins.WORKED, "write(1, 2)", m -> m.write(1, 2), 3, "sheet 2 item 0", "sheet 2 item 1",
                "sheet 2 item 2");
        });
        sentence(32, "as many as there are items, and TASKS: how many", () -> {
            for (int n = 0; n <= 60; n = n < 8 ? n + 1 : n + 52) {
                for (int wish = 1; wish <= 7; wish++) {
                    GridMender m = new GridMender();
                    m.grid(1, 7);
                    m.wish(wish);
                    m.mend();
                    m.sheet(3, 2, n);
                    for (int i = 0; i < n; i++) {
                        m.lay(3, 2, i, -5);
                    }
                    int many = Math.min(n, wish);
                    due("write(0, 3) of " + n + " items, WISH " + wish, m.write(0, 3), many);
                    for (int i = 0; i < n; i++) {
                        due("get(3, 2, " + i + ")", m.get(3, 2, i), i < many ? i : -5);
                    }
                }
            }
        });
        sentence(32, "(0: nothing is LAID).", () -> {
            GridMender m = new GridMender();
            m.sheet(0, 2, 2);
            m.lay(0, 2, 0, 7);
            due("write(4, 0)", m.write(4, 0), 0);
            dueItems(m, 0, 2, 7, 0);
            due("count(8)", m.count(8), 0);
            GridMender again = seated();
            again.sheet(0, 2, 2);
            again.wish(3);
            due("write(6, 0), no more LAID", again.write(6, 0), 0);
            dueItems(again, 0, 2, 0, 0);
        });
        sentence(32, "BAD;", () -> {
            for (int y : outside(0, 6)) {
                Twins.refused(Twins.ALL, "write(" + y + ", 0)", m -> m.write(y, 0), BAD);
            }
            for (int s : outside(0, 3)) {
                Twins.refused(Twins.ALL, "write(0, " + s + ")", m -> m.write(0, s), BAD);
            }
            Twins.refused(Twins.WORKED, "write(4, 0) of H 4", m -> m.write(4, 0), BAD);
            Twins.refused(Twins.WORKED, "write(4, 3), LOST too: BAD is ahead", m -> m.write(4, 3), BAD);
            Twins.refused(Twins.HOPELESS, "write(1, 0) of H 1, nothing LAID", m -> m.write(1, 0), BAD);
        });
        sentence(32, "NULL.", () -> {
            Twins.refused(Twins.WORKED, "write(0, 3)", m -> m.write(0, 3), NULL);
            for (int s = 0; s < 4; s++) {
                int lost = s;
                Twins.refused(Twins.FRESH, "write(0, " + s + "), nothing LAID", m -> m.write(0, lost), NULL);
            }
            Twins.refused(Twins.HOPELESS, "write(0, 1), LOST again", m -> m.write(0, 1), NULL);
        });
    }

    private static void count() {
        sentence(33, "0 CELLS,", () -> {
            due("count(0) of a new object", new GridMender().count(0), 30);
            Twins.tells(Twins.CRAMMED, "count(0)", m -> m.count(0), 49);
            Twins.tells(Twins.HOPELESS, "count(0)", m -> m.count(0), 1);
        });
        sentence(33, "1 those FAULTY,", () -> {
            due("count(1) of a new object", new GridMender().count(1), 0);
            Twins.tells(Twins.CRAMMED, "count(1)", m -> m.count(1), 49);
            Twins.tells(Twins.WORKED, "count(1)", m -> m.count(1), 3);
        });
        sentence(33, "2 whether it is WHOLE (1, 0),", () -> {
            Twins.tells(Twins.FRESH, "count(2)", m -> m.count(2), 1);
            Twins.tells(Twins.CRAMMED, "count(2)", m -> m.count(2), 0);
            Twins.tells(Twins.HOPELESS, "count(2)", m -> m.count(2), 0);
        });
        sentence(33, "3 MOVES of all mend() that were,", () -> {
            GridMender m = drawn(2, 1, "#...", "....");
            due("count(3) before any", m.count(3), 0);
            m.moves();
            due("count(3) after moves()", m.count(3), 0);
            m.mend();
            due("count(3)", m.count(3), 2);
            m.mend();
            due("count(3) after a mend() of none", m.count(3), 2);
            m.fault(1, 0);
            m.mend();
            due("count(3): the sum", m.count(3), 6);
            m.lots(1, 16);
            m.mend();
            due("count(3) after NOT", m.count(3), 6);
            m.seat(0, 3);
            due("count(3) after seat()", m.count(3), 6);
            m.grid(1, 1);
            due("count(3) after grid()", m.count(3), 6);
            m.mend();
            due("count(3)", m.count(3), 6);
        });
        sentence(33, "4 SLOTS that are not EMPTY,", () -> {
            Twins.tells(Twins.FRESH, "count(4)", m -> m.count(4), 0);
            Twins.tells(Twins.CRAMMED, "count(4), all kept", m -> m.count(4), 6);
            Twins.tells(Twins.WORKED, "count(4), one of another GRID", m -> m.count(4), 3);
            Twins.tells(Twins.HOPELESS, "count(4)", m -> m.count(4), 1);
        });
        sentence(33, "5 whether anything is LAID (1, 0),", () -> {
            Twins.tells(Twins.FRESH, "count(5)", m -> m.count(5), 0);
            Twins.tells(Twins.WORKED, "count(5)", m -> m.count(5), 1);
            Twins.tells(Twins.CRAMMED, "count(5), not WHOLE", m -> m.count(5), 1);
            Twins.tells(Twins.HOPELESS, "count(5)", m -> m.count(5), 0);
        });
        sentence(33, "6 CHAINS,", () -> {
            Twins.tells(Twins.FRESH, "count(6)", m -> m.count(6), 0);
            Twins.tells(Twins.CRAMMED, "count(6)", m -> m.count(6), 24);
            Twins.tells(Twins.HOPELESS, "count(6)", m -> m.count(6), 1);
        });
        sentence(33, "7 SEATS that FIT their ROW, of all ROWS together,", () -> {
            GridMender most = new GridMender();
            most.grid(7, 7);
            most.wish(4);
            most.length(3);
            due("count(7), 7 times 35", most.count(7), 245);
            due("count(7), one ROW FAULTY", drawn(1, 0, "###", "..#", "#..").count(7), 4);
            Twins.tells(Twins.CRAMMED, "count(7), all CELLS FAULTY", m -> m.count(7), 0);
        });
        sentence(33, "8 the number of the latest FINDING (0 before any).", () -> {
            due("count(8) of a new object", new GridMender().count(8), 0);
            GridMender m = Twins.WORKED.made();
            due("count(8), SIZE", m.count(8), 5);
            m.lay(0, 1, 0, 0);
            due("count(8), CAST", m.count(8), 3);
            m.copy(0, 0, 1, 0, 0);
            due("count(8), STORE", m.count(8), 4);
            m.go(6);
            due("count(8), INDEX", m.count(8), 2);
            m.lose(3);
            due("count(8), NULL", m.count(8), 1);
            m.grid(0, 0);
            m.go(0);
            m.lay(0, 0, 0, 0);
            due("count(8) after BAD, NOT and what went well", m.count(8), 1);
            m.grid(1, 1);
            due("count(8) after grid()", m.count(8), 1);
        });
        sentence(33, "BAD.", () -> {
            for (int what : outside(0, 8)) {
                Twins.refused(Twins.ALL, "count(" + what + ")", m -> m.count(what), BAD);
            }
        });
    }

    private static void digest() {
        sentence(34, "h is 17; h becomes 31 h and each of (of each thing all that is told of it, then of the next one):", () -> {
            for (Twins.State state : Twins.ALL) {
                Twins.tells(state, "digest()", GridMender::digest, wrapped(allOf(state.made())));
            }
        });
        sentence(34, "count() 0 to 7; moves(), broken(), witness() 0, 1, core(), critical(), least() 0, 1, cut();", () -> {
            for (Twins.State state : Twins.ALL) {
                GridMender before = state.made();
                long digest = before.digest();
                before.sheet(0, 0, -1);
                due("digest() of " + state.name + ": not by count() 8", before.digest(), digest);
            }
            String[] far = {".#", "..", "..", "#."};
            due("witness(0)", drawn(1, 0, far).witness(0), 0);
            due("witness(1)", drawn(1, 0, far).witness(1), 3);
            due("digest(), not WHOLE", drawn(1, 0, far).digest(), wrapped(allOf(drawn(1, 0, far))));
        });
        sentence(34, "of ROWS seats(), and of TASKS column();", () -> {
            for (int n : new int[] {1, 7}) {
                due("digest(), WISH " + n, tall(n).digest(), wrapped(allOf(tall(n))));
            }
        });
        sentence(34, "of CELLS by number cell() 0 to 4;", () -> {
            String[] rows = {".#...", "...#.", "#...."};
            due("digest()", drawn(3, 1, rows).digest(), wrapped(allOf(drawn(3, 1, rows))));
            String[] flat = {"#......"};
            due("digest() of one ROW", drawn(6, 0, flat).digest(), wrapped(allOf(drawn(6, 0, flat))));
        });
        sentence(34, "of SLOTS that are not EMPTY differ();", () -> {
            GridMender none = drawn(1, 0, "..");
            none.mend();
            long before = none.digest();
            none.keep(5);
            long kept = none.digest();
            dueTrue("digest() goes by a SLOT that is kept", before != kept);
            none.drop(5);
            due("digest() goes by no EMPTY SLOT, not by what it kept", none.digest(), before);
            // The worked one has SLOTS of another H, W, WISH, of which differ() answers NOT; EMPTY ones make no FINDING.
            GridMender unlike = Twins.WORKED.made();
            unlike.digest();
            due("count(8) after digest()", unlike.count(8), 5);
            due("digest(), a SLOT of another GRID", Twins.HOPELESS.made().digest(), wrapped(allOf(Twins.HOPELESS.made())));
        });
        sentence(34, "as longs that wrap.", () -> {
            BigInteger sum = sumOf(allOf(Twins.CRAMMED.made()));
            dueTrue("the sum is beyond a long", sum.bitLength() > 64);
            due("digest()", Twins.CRAMMED.made().digest(), sum.longValue());
            dueTrue("the CUT is beyond an int", Twins.CRAMMED.made().cut() > 0xFFFFFFFFL);
            GridMender one = new GridMender();
            one.grid(1, 1);
            due("digest() of 1 by 1", one.digest(), wrapped(allOf(one)));
        });
    }

    private static GridMender tall(int wish) {
        GridMender m = new GridMender();
        m.grid(7, 7);
        m.wish(wish);
        m.mend();
        return m;
    }

    static long digestByParts(GridMender m) {
        return wrapped(allOf(m));
    }

    private static long wrapped(List<Long> all) {
        return sumOf(all).longValue();
    }

    /** In numbers that do not wrap by themselves. */
    private static BigInteger sumOf(List<Long> all) {
        BigInteger sum = BigInteger.valueOf(17);
        for (long value : all) {
            sum = sum.multiply(BigInteger.valueOf(31)).add(BigInteger.valueOf(value));
        }
        return sum;
    }

    /** By the other calls, in the order that the document tells. */
    private static List<Long> allOf(GridMender m) {
        List<Long> all = new ArrayList<>();
        for (int what = 0; what <= 7; what++) {
            all.add((long) m.count(what));
        }
        long[] single = {m.moves(), m.broken(), m.witness(0), m.witness(1), m.core(), m.critical(), m.least(0), m.least(1),
            m.cut()};
        for (long value : single) {
            all.add(value);
        }
        int h = Twins.heightOf(m);
        int w = Twins.widthOf(m);
        int wish = Twins.wishOf(m);
        for (int y = 0; y < h; y++) {
            all.add((long) m.seats(y));
            for (int j = 0; j < wish; j++) {
                all.add((long) m.column(y, j));
            }
        }
        for (int number = 0; number < h * w; number++) {
            for (int what = 0; what <= 4; what++) {
                all.add((long) m.cell(number % w, number / w, what));
            }
        }
        for (int s = 0; s < 6; s++) {
            int differ = m.differ(s);
            if (differ != NULL) {
                all.add((long) differ);
            }
        }
        return all;
    }
}
