import java.io.IOException;
import java.nio.file.Files;
import java.nio.file.Path;
import java.util.LinkedHashMap;
import java.util.Map;

/**
 * The document, sentence by sentence. A test is told with the words that it tests, which must stand under the
 * heading it names; at the end each word of the promises and of the terms must belong to some test.
 * The chapters extend it to have its functions by their plain names.
 */
abstract class Told {
    static final int NONE = -1, BAD = -2, NOT = -3;
    static final int NULL = -11, INDEX = -12, CAST = -13, STORE = -14, SIZE = -15;
    static final int LEAST = Integer.MIN_VALUE;
    static final int GREATEST = Integer.MAX_VALUE;
    static final String WHAT = "What it is";
    static final String FACE = "The public face";
    static final String TERMS = "Terms";

    private static final Map<String, String> TEXTS = new LinkedHashMap<>();
    private static final Map<String, boolean[]> TESTED = new LinkedHashMap<>();
    private static String now = "";
    private static int sentences;
    private static int asked;
    private static int wrong;

    static void open(Path document) throws IOException {
        String heading = "";
        for (String line : Files.readAllLines(document)) {
            if (line.startsWith("## ")) {
                heading = line.substring(3).replaceAll(":.*", "");
                TEXTS.put(heading, "");
            } else if (TEXTS.containsKey(heading) && !line.startsWith("```")) {
                TEXTS.merge(heading, line + " ", String::concat);
            }
        }
        TEXTS.replaceAll((name, text) -> text.replaceAll("\\s+", " "));
        TEXTS.forEach((name, text) -> TESTED.put(name, new boolean[text.length()]));
    }

    static String promise(int n) {
        return "Promise " + n;
    }

    static void sentence(int promise, String words, Runnable test) {
        sentence(promise(promise), words, test);
    }

    static void sentence(String heading, String words, Runnable test) {
        now = heading + ", \"" + words + "\"";
        sentences++;
        markTested(heading, words);
        int before = asked;
        try {
            test.run();
        } catch (RuntimeException | Error thrown) {
            say("threw " + thrown);
        }
        if (asked == before) {
            say("nothing was asked");
        }
    }

    private static void markTested(String heading, String words) {
        int from = TEXTS.getOrDefault(heading, "").indexOf(words);
        if (from < 0) {
            say("the document has no such words there");
            return;
        }
        boolean[] tested = TESTED.get(heading);
        for (int i = from; i < from + words.length(); i++) {
            tested[i] = true;
        }
    }

    static void due(String call, long got, long want) {
        asked++;
        if (got != want) {
            say(call + " answered " + got + ", due is " + want);
        }
    }

    static void dueTrue(String what, boolean holds) {
        asked++;
        if (!holds) {
            say(what);
        }
    }

    private static void say(String text) {
        wrong++;
        if (wrong <= 60) {
            System.out.println(now + ": " + text);
        }
    }

    /** Whether all went well. */
    static boolean end() {
        now = "The document";
        for (String heading : TEXTS.keySet()) {
            if (heading.startsWith("Promise") || heading.equals(TERMS) || heading.equals(WHAT)) {
                sayWhatIsUntested(heading);
            }
        }
        System.out.println(sentences + " sentences of the document, " + asked + " answers, " + wrong + " wrong");
        return wrong == 0;
    }

    private static void sayWhatIsUntested(String heading) {
        boolean[] tested = TESTED.get(heading);
        StringBuilder left = new StringBuilder();
        String text = withoutFrame(TEXTS.get(heading));
        for (int i = 0; i < text.length(); i++) {
            if (!tested[i] && Character.isLetterOrDigit(text.charAt(i))) {
                left.append(text.charAt(i));
            } else if (left.length() > 0 && left.charAt(left.length() - 1) != ' ') {
                left.append(' ');
            }
        }
        if (left.toString().strip().length() > 0) {
            say(heading + ": no test of: " + left.toString().strip());
        }
    }

    /** The same text with what promises nothing blotted out: the summary, chapter marks, signatures, the interface. */
    private static String withoutFrame(String text) {
        String[] frames = {"^.*?======== 1", "======== \\d", "`[^`]*`", "Ahead of the calls [^:]*: ---- [a-z ]*\\."};
        String left = text;
        for (String frame : frames) {
            left = java.util.regex.Pattern.compile(frame).matcher(left)
                .replaceAll(found -> " ".repeat(found.group().length()));
        }
        return left;
    }

    /** FAULTY CELLS as '#', others as '.', a text for each ROW. */
    static GridMender drawn(int wish, int length, String... rows) {
        GridMender m = new GridMender();
        m.grid(rows.length, rows[0].length());
        m.wish(wish);
        m.length(length);
        for (int y = 0; y < rows.length; y++) {
            for (int x = 0; x < rows[y].length(); x++) {
                if (rows[y].charAt(x) == '#') {
                    m.fault(x, y);
                }
            }
        }
        return m;
    }

    /** A ROW of 7 of which the told COLUMNS alone are GOOD. */
    static String goodAt(int... columns) {
        StringBuilder row = new StringBuilder("#######");
        for (int x : columns) {
            row.setCharAt(x, '.');
        }
        return row.toString();
    }

    static void dueRow(GridMender m, int y, int... columns) {
        for (int j = 0; j < columns.length; j++) {
            due("column(" + y + ", " + j + ")", m.column(y, j), columns[j]);
        }
    }

    static void dueItems(GridMender m, int s, int form, int... items) {
        for (int i = 0; i < items.length; i++) {
            due("get(" + s + ", " + form + ", " + i + ")", m.get(s, form, i), items[i]);
        }
    }

    /** Whether each CELL, ROW by ROW, is FAULTY, as in drawn. */
    static void dueCells(GridMender m, String... rows) {
        for (int y = 0; y < rows.length; y++) {
            for (int x = 0; x < rows[y].length(); x++) {
                due("cell(" + x + ", " + y + ", 0)", m.cell(x, y, 0), rows[y].charAt(x) == '#' ? 1 : 0);
            }
        }
    }

    /** Numbers that are not from 0 to last, the nearest and the farthest, and some that are so in their lowest bits. */
    static int[] outside(int first, int last) {
        return new int[] {first - 1, last + 1, LEAST, GREATEST, first - 2, last + 2, -100, 1 << 8, 1 << 16, 1 << 31 | last,
            (1 << 30) + first};
    }
}
