import java.io.File;
import java.io.IOException;
import java.lang.reflect.Method;
import java.net.URL;
import java.net.URLClassLoader;
import java.nio.file.Files;
import java.nio.file.Path;
import java.util.ArrayList;
import java.util.Comparator;
import java.util.LinkedHashMap;
import java.util.List;
import java.util.Map;
import java.util.TreeSet;
import java.util.regex.Matcher;
import java.util.regex.Pattern;
import java.util.stream.Stream;
import javax.tools.JavaCompiler;
import javax.tools.ToolProvider;

/**
 * What README.md says of the class's use: its program prints what stands under it, each call of its examples answers
 * the number told behind it, each line of its list of calls holds, and its tests are those that there are.
 */
public final class ReadmeTest {
    private static final Path SOURCE = Path.of("src/main/java/GridMender.java");
    private static final Path DOCUMENT = Path.of("../shared/DOC.md");
    private static final Pattern MADE = Pattern.compile("GridMender m = new GridMender\\(\\);");
    private static final Pattern CALL = Pattern.compile("(m\\.\\w+\\(.*\\)); +// (-?\\d+)\\b(.*)");
    private static final Pattern NAMED = Pattern.compile(", (BAD|NOT|NONE)\\b.*");
    private static final int NULL = -11, INDEX = -12, CAST = -13, STORE = -14, SIZE = -15;

    private static final Map<String, String> TABLE = new LinkedHashMap<>();
    private static String text;
    private static String now = "";
    private static int asked;
    private static int wrong;

    /** A part of the page between two fences: its language and its lines. */
    private record Block(String language, String body) {
        boolean isProgram() {
            return language.equals("java") && body.contains("public final class ");
        }

        boolean isExample() {
            return language.equals("java") && !isProgram();
        }
    }

    public static void main(String[] args) throws Exception {
        text = Files.readString(Path.of("README.md"));
        Path room = Files.createTempDirectory("readme");
        try {
            List<Block> blocks = blocks();
            programPrintsWhatIsTold(blocks, room);
            examplesAnswerWhatIsTold(blocks, room);
        } finally {
            remove(room);
        }
        everyCallIsListed();
        linesOfTheGrid();
        linesOfPlacings();
        linesOfChainsAndSlots();
        linesOfSheets();
        everyLineIsTested();
        constants();
        testsAreThoseThatThereAre();
        System.out.println(asked + " things that README.md says, " + wrong + " wrong");
        if (wrong != 0) {
            System.exit(1);
        }
    }

    private static void due(String what, Object got, Object want) {
        asked++;
        if (!want.equals(got)) {
            wrong++;
            System.out.println(now + ": " + what + " is " + got + ", README.md says " + want);
        }
    }

    private static void dueTrue(String what, boolean holds) {
        due(what, holds, true);
    }

    private static List<Block> blocks() {
        List<Block> all = new ArrayList<>();
        Matcher fences = Pattern.compile("(?ms)^```(\\w+)\\n(.*?)^```$").matcher(text);
        while (fences.find()) {
            all.add(new Block(fences.group(1), fences.group(2)));
        }
        return all;
    }

    /** A program is followed by the commands that run it and by what it prints; they are run as they stand. */
    private static void programPrintsWhatIsTold(List<Block> blocks, Path room) throws Exception {
        int programs = 0;
        for (int i = 0; i < blocks.size(); i++) {
            if (!blocks.get(i).isProgram()) {
                continue;
            }
            programs++;
            Matcher name = Pattern.compile("public final class (\\w+)").matcher(blocks.get(i).body);
            now = "the program " + (name.find() ? name.group(1) : "");
            dueTrue("commands and what is printed after it", i + 2 < blocks.size()
                && blocks.get(i + 1).language.equals("sh") && blocks.get(i + 2).language.equals("text"));
            if (i + 2 < blocks.size()) {
                dueTrue("the name it is to be saved by", text.contains("Save this as `" + name.group(1) + ".java`"));
                Path copy = room.resolve(SOURCE);
                Files.createDirectories(copy.getParent());
                Files.copy(SOURCE, copy);
                Files.writeString(room.resolve(name.group(1) + ".java"), blocks.get(i).body);
                due("what it prints", printedBy(blocks.get(i + 1).body, room), blocks.get(i + 2).body);
            }
        }
        now = "the programs";
        due("how many there are", programs, 1);
    }

    private static String printedBy(String commands, Path room) throws Exception {
        Path script = room.resolve("commands.sh");
        Path printed = room.resolve("printed.txt");
        Files.writeString(script, commands);
        Process run = new ProcessBuilder("sh", "-e", script.getFileName().toString()).directory(room.toFile())
            .redirectErrorStream(true).redirectOutput(printed.toFile()).start();
        int code = run.waitFor();
        return Files.readString(printed) + (code == 0 ? "" : "(ended with " + code + ")");
    }

    /** Each example is compiled as it stands, and once more as a row of its calls, to have their answers. */
    private static void examplesAnswerWhatIsTold(List<Block> blocks, Path room) throws Exception {
        List<Block> examples = blocks.stream().filter(Block::isExample).toList();
        now = "the examples";
        dueTrue("that there are some", examples.size() >= 5);
        TreeSet<String> used = new TreeSet<>();
        for (int i = 0; i < examples.size(); i++) {
            List<String> calls = new ArrayList<>();
            List<Long> answers = new ArrayList<>();
            takeCalls(examples.get(i).body, calls, answers);
            long[] got = answersOf("Example" + i, examples.get(i).body, calls, room);
            for (int c = 0; c < calls.size(); c++) {
                now = "example " + (i + 1) + ", call " + (c + 1);
                due(calls.get(c), c < got.length ? (Object) got[c] : "not compiled", answers.get(c));
                used.add(calls.get(c).replaceAll("m\\.(\\w+)\\(.*", "$1"));
            }
        }
        now = "the examples";
        dueTrue("most calls are shown, but only " + used, used.size() >= 25);
    }

    private static void takeCalls(String body, List<String> calls, List<Long> answers) {
        for (String line : body.split("\n")) {
            now = "\"" + line + "\"";
            Matcher call = CALL.matcher(line);
            if (call.matches()) {
                calls.add(call.group(1));
                answers.add(Long.parseLong(call.group(2)));
                Matcher named = NAMED.matcher(call.group(3));
                if (named.matches()) {
                    due(named.group(1), Integer.parseInt(call.group(2)), valueOf(named.group(1)));
                }
            } else {
                dueTrue("a new object, or a call with its answer", MADE.matcher(line).matches());
            }
        }
    }

    private static int valueOf(String constant) {
        return constant.equals("BAD") ? GridMender.BAD : constant.equals("NOT") ? GridMender.NOT : GridMender.NONE;
    }

    private static long[] answersOf(String name, String body, List<String> calls, Path room) throws Exception {
        String code = "public final class " + name + " {\n"
            + "static void asItStands() {\n" + body + "}\n"
            + "public static long[] answers() {\n GridMender m = new GridMender();\n return new long[] {"
            + String.join(", ", calls) + "};\n}\n}\n";
        Path file = room.resolve(name + ".java");
        Files.writeString(file, code);
        JavaCompiler javac = ToolProvider.getSystemJavaCompiler();
        String path = System.getProperty("java.class.path");
        int ended = javac.run(null, null, null, "-cp", path, "-d", room.toString(), file.toString());
        due(name + " compiles, code", ended, 0);
        if (ended != 0) {
            return new long[0];
        }
        try (URLClassLoader loader = new URLClassLoader(new URL[] {room.toUri().toURL()})) {
            Method answers = loader.loadClass(name).getMethod("answers");
            return (long[]) answers.invoke(null);
        }
    }

    /** The list of calls against the face as the document has it. */
    private static void everyCallIsListed() throws IOException {
        now = "the list of calls";
        Matcher rows = Pattern.compile("(?m)^\\| `(.*?)` \\| (.*) \\|$").matcher(text);
        while (rows.find()) {
            dueTrue(rows.group(1) + " is listed once", TABLE.put(rows.group(1), rows.group(2)) == null);
        }
        List<String> face = new ArrayList<>();
        Matcher methods = Pattern.compile("public (?:int|long) (\\w+)\\((.*)\\);").matcher(Files.readString(DOCUMENT));
        while (methods.find()) {
            face.add(methods.group(1) + "(" + methods.group(2).replaceAll("\\bint ", "") + ")");
        }
        due("the calls", face, new ArrayList<>(TABLE.keySet()));
    }

    /** A line of the list, by the very words that stand there, with a test of them. */
    private static void line(String call, String words, Runnable test) {
        now = "`" + call + "`";
        due("what is said", words, String.valueOf(TABLE.remove(call)));
        int before = asked;
        test.run();
        dueTrue("that it is tested", asked > before);
    }

    private static void everyLineIsTested() {
        now = "the list of calls";
        due("lines with no test", new ArrayList<String>(), new ArrayList<>(TABLE.keySet()));
    }

    private static void answers(String call, long got, long want) {
        due(call, got, want);
    }

    private static void linesOfTheGrid() {
        line("grid(h, w)", "H rows and W columns (1 to 7), all good: how many cells", () -> {
            GridMender m = new GridMender();
            m.lots(1, 16);
            answers("grid(7, 7)", m.grid(7, 7), 49);
            answers("faulty ones", m.count(1), 0);
            answers("grid(1, 1)", m.grid(1, 1), 1);
            answers("grid(2, 3)", m.grid(2, 3), 6);
            answers("row 1, column 2", m.cell(2, 1, 0), 0);
            answers("row 2", m.cell(0, 2, 0), -2);
            answers("grid(8, 1)", m.grid(8, 1), -2);
            answers("grid(1, 8)", m.grid(1, 8), -2);
            answers("grid(0, 1)", m.grid(0, 1), -2);
            answers("grid(1, 0)", m.grid(1, 0), -2);
        });
        line("wish(n)", "tasks a row (1 to W): what it was", () -> {
            GridMender m = new GridMender();
            answers("wish(1)", m.wish(1), 4);
            answers("wish(6)", m.wish(6), 1);
            answers("wish(7)", m.wish(7), -2);
            answers("wish(0)", m.wish(0), -2);
            answers("task 5", m.column(0, 5), -1);
        });
        line("length(n)", "how many cells a wire may pass over (0 to 3): what it was", () -> {
            GridMender m = new GridMender();
            answers("length(0)", m.length(0), 1);
            answers("length(3)", m.length(3), 0);
            answers("length(4)", m.length(4), -2);
            answers("length(-1)", m.length(-1), -2);
        });
        line("sides(bits)", "open sides, 1 left, 2 top, 4 right, 8 bottom: what they were", () -> {
            GridMender m = new GridMender();
            m.grid(3, 3);
            int[][] cells = {{0, 1}, {1, 0}, {2, 1}, {1, 2}};
            int before = 4;
            for (int side = 0; side < 4; side++) {
                answers("sides(" + (1 << side) + ")", m.sides(1 << side), before);
                before = 1 << side;
                m.lots(1, 16);
                // All cells are faulty, so that a chain is one cell at the open side.
                answers("chains at side " + side, m.chains(), 3);
                answers("the cell amid it", m.cell(cells[side][0], cells[side][1], 4), 1);
            }
            answers("sides(16)", m.sides(16), -2);
        });
        line("fault(x, y)", "a good cell is faulty, a faulty one good: how many are faulty", () -> {
            GridMender m = new GridMender();
            answers("fault(5, 4)", m.fault(5, 4), 1);
            answers("fault(0, 0)", m.fault(0, 0), 2);
            answers("fault(5, 4)", m.fault(5, 4), 1);
        });
        line("lots(seed, n)", "cells are faulty by lot, n (0 to 16) of 16: how many are faulty", () -> {
            GridMender m = new GridMender();
            answers("lots(1, 16)", m.lots(1, 16), 30);
            answers("lots(1, 0)", m.lots(1, 0), 0);
            answers("lots(1, 8)", m.lots(1, 8), m.count(1));
            dueTrue("about half of them", m.count(1) > 8 && m.count(1) < 22);
            answers("lots(1, 17)", m.lots(1, 17), -2);
        });
        line("read(y, s)", "cells of a row are faulty as a sheet tells: how many were told", () -> {
            GridMender m = new GridMender();
            m.sheet(0, 2, 3);
            m.lay(0, 2, 2, 7);
            m.fault(0, 1);
            answers("read(1, 0)", m.read(1, 0), 3);
            answers("column 0", m.cell(0, 1, 0), 0);
            answers("column 2", m.cell(2, 1, 0), 1);
        });
        line("cell(x, y, what)", "0 faulty, 1 the task laid there, 2 critical, 3 of the core, 4 of the cut", () -> {
            GridMender m = new GridMender();
            m.grid(1, 2);
            m.fault(0, 0);
            m.wish(1);
            m.mend();
            answers("faulty", m.cell(0, 0, 0), 1);
            answers("the task", m.cell(1, 0, 1), 0);
            answers("no task", m.cell(0, 0, 1), -1);
            answers("critical", m.cell(1, 0, 2), 1);
            answers("of the cut", m.cell(0, 0, 4), 1);
            m.wish(2);
            answers("of the core", m.cell(0, 0, 3), 1);
        });
    }

    /** Two rows of three columns, one of them with a faulty cell amid, and two tasks a row. */
    private static GridMender small() {
        GridMender m = new GridMender();
        m.grid(2, 3);
        m.wish(2);
        m.fault(1, 0);
        return m;
    }

    private static void linesOfPlacings() {
        line("whole()", "whether there is a placing", () -> {
            GridMender m = small();
            answers("with wires over 1", m.whole(), 1);
            m.length(0);
            answers("with wires over none", m.whole(), 0);
        });
        line("mend()", "lays the placing with fewest moves: how many", () -> {
            GridMender m = small();
            answers("mend()", m.mend(), 1);
            answers("laid", m.count(5), 1);
            answers("task 1 of row 0", m.column(0, 1), 2);
            answers("task 1 of row 1", m.column(1, 1), 1);
        });
        line("moves()", "how many moves `mend()` would have", () -> {
            GridMender m = small();
            answers("moves()", m.moves(), 1);
            answers("laid", m.count(5), 0);
        });
        line("seat(y, bits)", "lays a row by hand: how many tasks are moved", () -> {
            GridMender m = small();
            m.mend();
            answers("seat(1, 0b110)", m.seat(1, 0b110), 2);
            answers("task 0", m.column(1, 0), 1);
            answers("task 1", m.column(1, 1), 2);
        });
        line("column(y, j)", "where a task is laid", () -> {
            GridMender m = small();
            m.mend();
            answers("column(0, 0)", m.column(0, 0), 0);
            answers("column(0, 1)", m.column(0, 1), 2);
        });
        line("seats(y)", "how many seats fit a row", () -> {
            GridMender m = small();
            answers("row 0: columns 0 and 2", m.seats(0), 1);
            answers("row 1: any two", m.seats(1), 3);
        });
        line("broken()", "tasks and wires that are broken, of what is laid", () -> {
            GridMender m = small();
            m.mend();
            answers("all is well", m.broken(), 0);
            m.fault(0, 0);
            answers("a task", m.broken(), 1);
            m.length(0);
            answers("the wire of row 0 and that from task 1 down, too", m.broken(), 3);
        });
        line("witness(part)", "fewest rows without a placing: the first (0), the last (1)", () -> {
            GridMender m = new GridMender();
            m.grid(4, 2);
            m.wish(1);
            m.length(0);
            m.fault(0, 1);
            m.fault(1, 2);
            answers("the first", m.witness(0), 1);
            answers("the last", m.witness(1), 2);
        });
        line("core()", "how many faulty cells are enough to make it hopeless", () -> {
            GridMender m = small();
            m.fault(0, 1);
            m.length(0);
            answers("core()", m.core(), 1);
            m.length(1);
            answers("of a whole grid", m.core(), 0);
        });
        line("critical()", "how many good cells must not break", () -> {
            GridMender m = small();
            answers("two of row 0", m.critical(), 2);
            m.length(0);
            answers("of a grid that is not whole", m.critical(), 0);
        });
        line("least(what)", "the least length of wires (0), the greatest wish (1) with a placing", () -> {
            GridMender m = small();
            m.length(3);
            answers("least(0)", m.least(0), 1);
            answers("least(1)", m.least(1), 2);
        });
    }

    private static void linesOfChainsAndSlots() {
        line("chains()", "how many chains lead from faulty cells out, no cell in two", () -> {
            GridMender m = new GridMender();
            m.grid(1, 4);
            m.fault(0, 0);
            m.fault(2, 0);
            answers("the second alone can pass", m.chains(), 1);
        });
        line("cut()", "as many cells, without which there is none, as bits by number", () -> {
            GridMender m = new GridMender();
            m.grid(2, 4);
            m.fault(1, 1);
            answers("cell 5", m.cut(), 1L << 5);
        });
        line("keep(s)", "keeps what is laid in a slot (0 to 5): how many are not empty", () -> {
            GridMender m = small();
            m.mend();
            answers("keep(0)", m.keep(0), 1);
            answers("keep(5)", m.keep(5), 2);
            answers("keep(6)", m.keep(6), INDEX);
        });
        line("go(s)", "lays what a slot keeps: how much of it is broken", () -> {
            GridMender m = small();
            m.mend();
            m.keep(0);
            m.seat(0, 0b110);
            m.fault(0, 0);
            answers("go(0)", m.go(0), 1);
            answers("task 0", m.column(0, 0), 0);
        });
        line("differ(s)", "how many tasks are elsewhere in a slot", () -> {
            GridMender m = small();
            m.mend();
            m.keep(0);
            answers("none", m.differ(0), 0);
            m.seat(0, 0b011);
            answers("one", m.differ(0), 1);
        });
        line("drop(s)", "empties a slot: how many are not empty", () -> {
            GridMender m = small();
            m.mend();
            m.keep(0);
            m.keep(1);
            answers("drop(0)", m.drop(0), 1);
            answers("drop(0) again", m.drop(0), NULL);
        });
    }

    private static void linesOfSheets() {
        line("sheet(s, form, n)", "a sheet (0 to 3) of n (0 to 60) truths (0), chars (1) or ints (2): n", () -> {
            GridMender m = new GridMender();
            long[] kept = {1, 65535, -1};
            for (int form = 0; form <= 2; form++) {
                answers("sheet(" + form + ", " + form + ", 60)", m.sheet(form, form, 60), 60);
                m.lay(form, form, 59, -1);
                answers("what an item of form " + form + " keeps of -1", m.get(form, form, 59), kept[form]);
            }
            answers("sheet(3, 0, 0)", m.sheet(3, 0, 0), 0);
            answers("sheet(4, 0, 0)", m.sheet(4, 0, 0), -2);
            answers("sheet(0, 3, 0)", m.sheet(0, 3, 0), -2);
            answers("sheet(0, 0, 61)", m.sheet(0, 0, 61), -2);
            answers("sheet(0, 0, -1)", m.sheet(0, 0, -1), SIZE);
        });
        line("lose(s)", "a sheet is lost: how many items it had", () -> {
            GridMender m = new GridMender();
            m.sheet(2, 1, 9);
            answers("lose(2)", m.lose(2), 9);
            answers("lose(2) again", m.lose(2), NULL);
        });
        line("lay(s, form, i, v)", "item i becomes v: 1", () -> {
            GridMender m = new GridMender();
            m.sheet(0, 2, 2);
            answers("lay(0, 2, 1, 77)", m.lay(0, 2, 1, 77), 1);
            answers("item 1", m.get(0, 2, 1), 77);
            answers("lay(0, 1, 1, 77)", m.lay(0, 1, 1, 77), CAST);
        });
        line("get(s, form, i)", "item i", () -> {
            GridMender m = new GridMender();
            m.sheet(0, 1, 2);
            m.lay(0, 1, 1, 'x');
            answers("get(0, 1, 1)", m.get(0, 1, 1), 'x');
            answers("get(0, 1, 0)", m.get(0, 1, 0), 0);
        });
        line("copy(s, i, t, j, n)", "n items of sheet s from i on come to sheet t from j on: 1", () -> {
            GridMender m = new GridMender();
            m.sheet(0, 2, 3);
            m.sheet(1, 2, 3);
            m.lay(0, 2, 1, 8);
            m.lay(0, 2, 2, 9);
            answers("copy(0, 1, 1, 0, 2)", m.copy(0, 1, 1, 0, 2), 1);
            answers("item 0", m.get(1, 2, 0), 8);
            answers("item 1", m.get(1, 2, 1), 9);
            answers("item 2", m.get(1, 2, 2), 0);
            m.sheet(2, 0, 3);
            answers("copy(0, 1, 2, 0, 2)", m.copy(0, 1, 2, 0, 2), STORE);
        });
        line("write(y, s)", "columns of the tasks of a row come to a sheet: how many", () -> {
            GridMender m = small();
            m.mend();
            m.sheet(0, 2, 5);
            answers("write(0, 0)", m.write(0, 0), 2);
            answers("item 0", m.get(0, 2, 0), 0);
            answers("item 1", m.get(0, 2, 1), 2);
        });
        line("count(what)", "0 cells, 1 faulty ones, 2 whole, 3 moves so far, 4 slots in use, 5 laid, 6 chains, 7 seats,"
            + " 8 finding", () -> {
            GridMender m = small();
            m.mend();
            m.keep(2);
            m.go(6);
            long[] want = {6, 1, 1, 1, 1, 1, 1, 4, 2};
            for (int what = 0; what < want.length; what++) {
                answers("count(" + what + ")", m.count(what), want[what]);
            }
        });
        line("digest()", "a number of all that can be told", () -> {
            GridMender m = small();
            GridMender like = small();
            answers("of like objects", m.digest(), like.digest());
            like.fault(2, 1);
            dueTrue("of unlike ones", m.digest() != like.digest());
        });
    }

    private static void constants() {
        now = "the constants";
        Matcher named = Pattern.compile("`(NONE|FULL)` \\((-\\d)\\)").matcher(text);
        int found = 0;
        while (named.find()) {
            found++;
            int value = named.group(1).equals("NONE") ? GridMender.NONE : GridMender.FULL;
            due(named.group(1), value, Integer.parseInt(named.group(2)));
        }
        due("NONE and FULL", found, 2);
    }

    private static void testsAreThoseThatThereAre() throws IOException {
        now = "the tests";
        TreeSet<String> told = new TreeSet<>();
        Matcher items = Pattern.compile("(?m)^- `(\\w+Test)`:").matcher(text);
        while (items.find()) {
            told.add(items.group(1) + ".java");
        }
        TreeSet<String> there = new TreeSet<>();
        try (Stream<Path> files = Files.list(Path.of("src/test/java"))) {
            files.forEach(file -> there.add(file.getFileName().toString()));
        }
        due("those under src/test/java", there, told);
        dueTrue("how they are run", text.contains("```sh\n.ci/run\n```") && new File(".ci/run").canExecute());
        Matcher paths = Pattern.compile("`((?:\\.\\./shared|src)/[\\w./]+)`").matcher(text);
        while (paths.find()) {
            dueTrue(paths.group(1) + " is there", Files.exists(Path.of(paths.group(1))));
        }
    }

    private static void remove(Path folder) throws IOException {
        try (Stream<Path> all = Files.walk(folder)) {
            for (Path path : all.sorted(Comparator.reverseOrder()).toList()) {
                Files.delete(path);
            }
        }
    }
}
