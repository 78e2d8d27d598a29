import java.util.ArrayList;
import java.util.HashMap;
import java.util.List;
import java.util.Map;
import java.util.function.Supplier;
import java.util.function.ToLongFunction;

/**
 * Two objects that were made alike, one of which has one call more: all that is told of the two is set against
 * each other. What is told is asked for in parts, each of a new object, so that none has more than 512 calls.
 */
final class Twins {
    private static final int PARTS = 3;

    /** A new object. */
    static final State FRESH = new State("a new object", GridMender::new, 0);
    /** 4 by 5, WISH 3, LAID by hand; SLOTS 2, 5 of it, 0 of another GRID, 1, 3, 4 EMPTY; SHEET 3 LOST; SIZE was found. */
    static final State WORKED = new State("the worked one", Twins::worked, 5, new int[] {3, 4, 2});
    /** 7 by 7, WISH 4, LAID, all CELLS FAULTY, all SLOTS kept, all SHEETS of 60 items, of FORMS 0, 1, 2, 2. */
    static final State CRAMMED = new State("the crammed one", Twins::crammed, 0);
    /** 1 by 1 and FAULTY, WISH 1, nothing LAID, SLOT 3 of another GRID, all SHEETS LOST; NULL was found. */
    static final State HOPELESS = new State("the hopeless one", Twins::hopeless, 1, new int[] {5, 6, 4});
    static final State[] ALL = {FRESH, WORKED, CRAMMED, HOPELESS};

    private static final Map<String, List<String>> KNOWN = new HashMap<>();

    private Twins() {
    }

    static final class State {
        final String name;
        final Supplier<GridMender> maker;
        final int finding;
        final int[][] shapes;

        State(String name, Supplier<GridMender> maker, int finding, int[]... shapes) {
            this.name = name;
            this.maker = maker;
            this.finding = finding;
            this.shapes = shapes;
        }

        GridMender made() {
            return maker.get();
        }
    }

    private static GridMender worked() {
        GridMender m = new GridMender();
        m.grid(3, 4);
        m.wish(2);
        m.length(2);
        m.mend();
        m.seat(1, 12);
        m.keep(0);
        m.grid(4, 5);
        m.wish(3);
        m.length(1);
        m.sides(9);
        m.fault(1, 0);
        m.fault(3, 2);
        m.fault(0, 3);
        m.mend();
        m.keep(2);
        m.seat(2, 28);
        m.keep(5);
        m.seat(1, 21);
        m.sheet(0, 0, 5);
        m.lay(0, 0, 1, 1);
        m.lay(0, 0, 4, 1);
        m.sheet(1, 1, 7);
        m.lay(1, 1, 0, 65535);
        m.lay(1, 1, 6, 9);
        m.sheet(2, 2, 8);
        for (int i = 0; i < 8; i++) {
            m.lay(2, 2, i, 1000 * i - 3000);
        }
        m.sheet(0, 0, -1);
        return m;
    }

    private static GridMender crammed() {
        GridMender m = new GridMender();
        m.grid(7, 7);
        m.wish(4);
        m.length(3);
        m.sides(15);
        m.mend();
        for (int s = 0; s < 6; s++) {
            m.seat(s, 15 << s % 4);
            m.keep(s);
        }
        for (int s = 0; s < 4; s++) {
            int form = Math.min(s, 2);
            m.sheet(s, form, 60);
            for (int i = 0; i < 5; i++) {
                m.lay(s, form, i, 2 * i + 1);
            }
            for (int many = 5; many < 60; many += 5) {
                m.copy(s, 0, s, many, 5);
            }
        }
        m.lots(1, 16);
        return m;
    }

    private static GridMender hopeless() {
        GridMender m = new GridMender();
        m.mend();
        m.keep(3);
        m.sheet(1, 2, 3);
        m.lose(1);
        m.grid(1, 1);
        m.fault(0, 0);
        m.lose(1);
        return m;
    }

    /** A call that is refused, with a FINDING if its answer is one, and changes nothing else. */
    static void refused(State state, String call, ToLongFunction<GridMender> act, long want) {
        boolean isFinding = want <= Told.NULL && want >= Told.SIZE;
        check(state, call, act, want, isFinding ? (int) (-10 - want) : 0);
    }

    static void refused(State[] states, String call, ToLongFunction<GridMender> act, long want) {
        for (State state : states) {
            refused(state, call, act, want);
        }
    }

    /** A call that is refused with a FINDING that its answer does not tell. */
    static void refusedInSecret(State state, String call, ToLongFunction<GridMender> act, long want, int finding) {
        check(state, call, act, want, finding);
    }

    /** A call that tells something and changes nothing. */
    static void tells(State state, String call, ToLongFunction<GridMender> act, long want) {
        check(state, call, act, want, 0);
    }

    /** A call that changes nothing but what is told under these names. */
    static void changesOnly(State state, String call, ToLongFunction<GridMender> act, long want, String... names) {
        check(state, call, act, want, 0, names);
    }

    /** A call after which all is told alike, whether it was asked before the call or not. */
    static void forgets(State state, String call, ToLongFunction<GridMender> act) {
        for (int part = 0; part < PARTS; part++) {
            GridMender unasked = state.made();
            act.applyAsLong(unasked);
            GridMender asked = state.made();
            asked.digest();
            act.applyAsLong(asked);
            compare(state.name + " asked before " + call, told(unasked, part, state.shapes), told(asked, part, state.shapes));
        }
    }

    static void forgets(State[] states, String call, ToLongFunction<GridMender> act) {
        for (State state : states) {
            forgets(state, call, act);
        }
    }

    private static void check(State state, String call, ToLongFunction<GridMender> act, long want, int finding,
            String... names) {
        for (int part = 0; part < PARTS; part++) {
            GridMender m = state.made();
            Told.due(call + " of " + state.name, act.applyAsLong(m), want);
            Told.due("count(8) after " + call, m.count(8), finding != 0 ? finding : state.finding);
            compare(state.name + " after " + call, known(state, part), told(m, part, state.shapes), names);
        }
    }

    private static void compare(String what, List<String> before, List<String> after, String... names) {
        List<String> left = without(before, names);
        List<String> right = without(after, names);
        String unlike = left.size() == right.size() ? "" : "another number of answers";
        for (int i = 0; i < left.size() && i < right.size() && unlike.isEmpty(); i++) {
            unlike = left.get(i).equals(right.get(i)) ? "" : left.get(i) + " became " + right.get(i);
        }
        Told.dueTrue(what + ": " + unlike, unlike.isEmpty());
    }

    private static List<String> without(List<String> all, String... names) {
        List<String> left = new ArrayList<>();
        for (String told : all) {
            boolean isNamed = false;
            for (String name : names) {
                isNamed |= told.startsWith(name + " ");
            }
            if (!isNamed) {
                left.add(told);
            }
        }
        return left;
    }

    private static List<String> known(State state, int part) {
        return KNOWN.computeIfAbsent(state.name + part, key -> told(state.made(), part, state.shapes));
    }

    private static List<String> told(GridMender m, int part, int[][] shapes) {
        List<String> all = new ArrayList<>();
        if (part == 0) {
            tellGrid(m, all);
        } else if (part == 1) {
            tellSheets(m, all);
        } else {
            tellSlots(m, all, shapes);
        }
        return all;
    }

    private static void tell(List<String> all, String name, long answer) {
        all.add(name + " = " + answer);
    }

    static int widthOf(GridMender m) {
        int w = 0;
        while (w < 10 && m.cell(w, 0, 0) != GridMender.BAD) {
            w++;
        }
        return w;
    }

    static int heightOf(GridMender m) {
        int h = 0;
        while (h < 10 && m.cell(0, h, 0) != GridMender.BAD) {
            h++;
        }
        return h;
    }

    static int wishOf(GridMender m) {
        int n = 0;
        while (n < 10 && m.column(0, n) != GridMender.BAD) {
            n++;
        }
        return n;
    }

    private static void tellGrid(GridMender m, List<String> all) {
        tell(all, "digest", m.digest());
        for (int what = 0; what < 8; what++) {
            tell(all, "count " + what, m.count(what));
        }
        long[] answers = {m.whole(), m.moves(), m.broken(), m.witness(0), m.witness(1), m.core(), m.critical(),
            m.least(0), m.least(1), m.chains(), m.cut()};
        String[] names = {"whole", "moves", "broken", "witness 0", "witness 1", "core", "critical", "least 0", "least 1",
            "chains", "cut"};
        for (int i = 0; i < names.length; i++) {
            tell(all, names[i], answers[i]);
        }
        int h = heightOf(m);
        int w = widthOf(m);
        tell(all, "H", h);
        tell(all, "W", w);
        for (int y = 0; y < h; y++) {
            tell(all, "seats " + y, m.seats(y));
            for (int x = 0; x < w; x++) {
                tell(all, "faulty " + x + " " + y, m.cell(x, y, 0));
                tell(all, "task " + x + " " + y, m.cell(x, y, 1));
            }
        }
        tellColumns(m, all, "column");
        tell(all, "LENGTH", m.length(0));
        tell(all, "SIDES", m.sides(0));
    }

    private static void tellColumns(GridMender m, List<String> all, String name) {
        int h = heightOf(m);
        int n = wishOf(m);
        tell(all, name + " WISH", n);
        for (int y = 0; y < h; y++) {
            for (int j = 0; j < n; j++) {
                tell(all, name + " " + y + " " + j, m.column(y, j));
            }
        }
    }

    private static void tellSheets(GridMender m, List<String> all) {
        for (int s = 0; s < 4; s++) {
            String name = "sheet " + s + " ";
            int form = 0;
            for (int f = 0; f < 3; f++) {
                int answer = m.lay(s, f, -1, 0);
                tell(all, name + "as FORM " + f, answer);
                form = answer == Told.INDEX ? f : form;
            }
            int size = sizeOf(m, s);
            tell(all, name + "size", size);
            for (int i = 0; i < size; i++) {
                tell(all, name + "item " + i, m.get(s, form, i));
            }
            tell(all, name + "lose", m.lose(s));
        }
    }

    /** The greatest i at which no items can be copied, found by halves; -1, if the SHEET is LOST. */
    private static int sizeOf(GridMender m, int s) {
        int fits = -1;
        int tooFar = 64;
        while (tooFar - fits > 1) {
            int i = (fits + tooFar) / 2;
            if (m.copy(s, i, s, i, 0) == 1) {
                fits = i;
            } else {
                tooFar = i;
            }
        }
        return fits;
    }

    private static void tellSlots(GridMender m, List<String> all, int[][] shapes) {
        for (int s = 0; s < 6; s++) {
            tell(all, "slot " + s + " differ", m.differ(s));
        }
        tellSlotsAsTheyAre(m, all, "");
        for (int[] shape : shapes) {
            m.grid(shape[0], shape[1]);
            m.wish(shape[2]);
            tellSlotsAsTheyAre(m, all, " of another GRID");
        }
    }

    private static void tellSlotsAsTheyAre(GridMender m, List<String> all, String which) {
        for (int s = 0; s < 6; s++) {
            String name = "slot " + s + which;
            int answer = m.go(s);
            tell(all, name + " go", answer);
            if (answer >= 0) {
                tellColumns(m, all, name + " column");
            }
        }
    }
}
