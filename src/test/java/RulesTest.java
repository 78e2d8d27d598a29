import java.lang.management.ManagementFactory;
import java.lang.reflect.Constructor;
import java.lang.reflect.Field;
import java.lang.reflect.Method;
import java.lang.reflect.Modifier;
import java.util.ArrayList;
import java.util.Arrays;
import java.util.List;
import java.util.TreeSet;

/** The face of the class, wild arguments, and that no call makes objects. */
public final class RulesTest {
    private static final String[] FACE = {
        "int broken()", "int cell(int,int,int)", "int chains()", "int column(int,int)", "int copy(int,int,int,int,int)",
        "int core()", "int count(int)", "int critical()", "int differ(int)", "int drop(int)", "int fault(int,int)",
        "int get(int,int,int)", "int go(int)", "int grid(int,int)", "int keep(int)", "int lay(int,int,int,int)",
        "int least(int)", "int length(int)", "int lose(int)", "int lots(int,int)", "int mend()", "int moves()",
        "int read(int,int)", "int seat(int,int)", "int seats(int)", "int sheet(int,int,int)", "int sides(int)",
        "int whole()", "int wish(int)", "int witness(int)", "int write(int,int)", "long cut()", "long digest()"};
    private static final int[] WILD = {0, 1, 2, 3, 4, 5, 6, 7, 8, 15, 16, 60, 61, 64, 128, -1, -2, -60,
        Integer.MAX_VALUE, Integer.MAX_VALUE - 1, Integer.MIN_VALUE, Integer.MIN_VALUE + 1, 1 << 30, 65536};
    private static int wrong;

    public static void main(String[] args) throws Exception {
        face();
        wildArguments();
        noObjects();
        System.out.println("the rules, " + wrong + " broken");
        if (wrong != 0) {
            System.exit(1);
        }
    }

    private static void say(boolean isRight, String text) {
        if (!isRight) {
            wrong++;
            System.out.println(text);
        }
    }

    private static void face() {
        TreeSet<String> seen = new TreeSet<>();
        TreeSet<String> names = new TreeSet<>();
        for (Method m : GridMender.class.getDeclaredMethods()) {
            if (!Modifier.isPrivate(m.getModifiers())) {
                List<String> types = new ArrayList<>();
                for (Class<?> type : m.getParameterTypes()) {
                    types.add(type.getName());
                }
                seen.add(m.getReturnType().getName() + " " + m.getName() + "(" + String.join(",", types) + ")");
                names.add(m.getName());
                say(m.getModifiers() == Modifier.PUBLIC, "not public alone: " + m);
            }
        }
        say(seen.equals(new TreeSet<>(Arrays.asList(FACE))), "another face: " + seen);
        for (Field f : GridMender.class.getDeclaredFields()) {
            boolean isTold = Arrays.asList("NONE", "BAD", "NOT", "FULL").contains(f.getName());
            say(isTold == !Modifier.isPrivate(f.getModifiers()), "another field: " + f);
        }
        say(Modifier.isFinal(GridMender.class.getModifiers()), "the class is not final");
        Constructor<?>[] made = GridMender.class.getDeclaredConstructors();
        say(made.length == 1 && Modifier.isPublic(made[0].getModifiers()), "another constructor");
        say(GridMender.class.getDeclaredClasses().length <= 11, "too many classes");
        for (Class<?> inner : GridMender.class.getDeclaredClasses()) {
            say(Modifier.isStatic(inner.getModifiers()), "not static: " + inner);
            say(inner.getDeclaredFields().length <= 30, "too many fields: " + inner);
            for (Method m : inner.getDeclaredMethods()) {
                say(!names.contains(m.getName()), "the name of a public method: " + m);
                say(m.getParameterCount() <= 7, "too many parameters: " + m);
            }
        }
        for (Method m : GridMender.class.getDeclaredMethods()) {
            boolean isPrivate = Modifier.isPrivate(m.getModifiers());
            say(!isPrivate || !names.contains(m.getName()), "the name of a public method: " + m);
        }
    }

    private static int wild(int i) {
        return WILD[Math.floorMod(i, WILD.length)];
    }

    private static void wildArguments() throws ReflectiveOperationException {
        Method[] all = GridMender.class.getDeclaredMethods();
        Arrays.sort(all, (a, b) -> a.getName().compareTo(b.getName()));
        int lot = 1;
        for (int run = 0; run < 400; run++) {
            GridMender x = new GridMender();
            for (int call = 0; call < 200; call++) {
                lot = lot * 1103515245 + 12345;
                Method m = all[Math.floorMod(lot >> 8, all.length)];
                if (!Modifier.isPublic(m.getModifiers())) {
                    continue;
                }
                Object[] values = new Object[m.getParameterCount()];
                for (int i = 0; i < values.length; i++) {
                    lot = lot * 1103515245 + 12345;
                    values[i] = wild((lot >> 16) & 31);
                }
                try {
                    m.invoke(x, values);
                } catch (java.lang.reflect.InvocationTargetException e) {
                    say(false, m + " of " + Arrays.toString(values) + " threw " + e.getCause());
                }
            }
        }
    }

    /** All calls of a run live in one room, so that no call may make an object. */
    private static void noObjects() {
        com.sun.management.ThreadMXBean bean = (com.sun.management.ThreadMXBean) ManagementFactory.getThreadMXBean();
        GridMender x = new GridMender();
        long sum = 0;
        long least = Long.MAX_VALUE;
        // The first time counts classes that are loaded, so that it is the least of several that tells.
        for (int time = 0; time < 5; time++) {
            long before = bean.getCurrentThreadAllocatedBytes();
            sum += useAll(x);
            least = Math.min(least, bean.getCurrentThreadAllocatedBytes() - before);
        }
        say(least == 0, "calls made " + least + " bytes of objects, sum " + sum);
    }

    private static long useAll(GridMender x) {
        long sum = x.grid(7, 7) + x.wish(4) + x.length(2) + x.sides(15) + x.lots(5, 4) + x.fault(0, 0);
        sum += x.digest() + x.mend() + x.moves() + x.broken() + x.seat(0, 15) + x.column(0, 0) + x.seats(0);
        sum += x.keep(0) + x.go(0) + x.differ(0) + x.drop(0) + x.whole() + x.core() + x.critical();
        sum += x.sheet(0, 0, 60) + x.sheet(1, 0, 7) + x.lay(0, 0, 3, 3) + x.get(0, 0, 3) + x.copy(0, 0, 1, 0, 7);
        sum += x.read(0, 0) + x.write(0, 0) + x.lose(0) + x.count(7) + x.cell(0, 0, 4) + x.least(0) + x.least(1);
        return sum + x.witness(0) + x.chains() + x.cut() + x.lots(9, 9) + x.digest();
    }
}
