import java.io.IOException;
import java.lang.reflect.InvocationTargetException;
import java.lang.reflect.Method;
import java.lang.reflect.Modifier;
import java.nio.file.Files;
import java.nio.file.Path;
import java.util.ArrayList;
import java.util.Arrays;
import java.util.HashMap;
import java.util.List;
import java.util.Map;
import java.util.function.Supplier;
import java.util.regex.Pattern;
import java.util.stream.Collectors;

/**
 * What the tests of the document's edges share. Each test is of one promise and one sentence; the sentence must stand
 * in the document, in that promise or in the terms, and what of the document no test is of is told at the end.
 */
class Edges {
    static final int LEAST = Integer.MIN_VALUE;
    static final int MOST = Integer.MAX_VALUE;
    static final long FAR = 1000000000L;
    static final long LONG = 4000000000000000000L;
    static final int PROMISES = 48;
    private static final int LETTERS = 96;
    // A piece of the document that holds one of these is about an edge.
    private static final Pattern EDGE = Pattern.compile("\\d|\\b(least|most|first|fewest|none|no|more|less|all|at most|too|beyond|rest)\\b");

    private static final Map<String, Method> CALLS = new HashMap<>();
    private static String document = "";
    private static boolean[] covered = {};
    private static final int[] testsOf = new int[PROMISES + 1];
    private static String place = "";
    private static int tests;
    private static int asked;
    private static int wrong;

    static void open(String path) throws IOException {
        document = Files.readString(Path.of(path)).replaceAll("\\s+", " ");
        covered = new boolean[document.length()];
        for (Method m : JealousByCalendar.class.getDeclaredMethods()) {
            if (Modifier.isPublic(m.getModifiers())) CALLS.put(m.getName(), m);
        }
    }

    /** A test of its own: the promise, a sentence (or its part) of it or of the terms, and what is asked. */
    static void edge(int promise, String sentence, Runnable test) {
        place = "promise " + promise + ", \"" + sentence + "\": ";
        tests++;
        testsOf[promise]++;
        if (!cover(promise, sentence)) fault("does not stand in the document");
        int before = asked;
        try {
            test.run();
        } catch (RuntimeException e) {
            fault("failed with " + e);
        }
        if (asked == before) fault("asks nothing");
    }

    static void fault(String text) {
        wrong++;
        System.out.println(place + text);
    }

    // ---- the document

    private static boolean cover(int promise, String sentence) {
        int start = document.indexOf("## Promise " + promise + ":");
        int end = document.indexOf(" ## ", start);
        boolean here = mark(sentence, start, end);
        return here || mark(sentence, 0, document.indexOf("## Promise 1:"));
    }

    private static boolean mark(String sentence, int from, int to) {
        boolean found = false;
        for (int at = document.indexOf(sentence, from); at >= 0 && at < to; at = document.indexOf(sentence, at + 1)) {
            Arrays.fill(covered, at, at + sentence.length(), true);
            found = true;
        }
        return found;
    }

    /** The pieces of the terms and of the promises that no test is of. */
    private static List<String> untested() {
        StringBuilder left = new StringBuilder();
        int to = document.indexOf("## Not promised");
        for (int i = document.indexOf("==== I."); i < to; i++) left.append(covered[i] ? '\n' : document.charAt(i));
        List<String> pieces = new ArrayList<>();
        String plain = left.toString().replaceAll("## Promise \\d+:( \\w+)?", "").replaceAll("`[^`\n]*`:?", "")
            .replaceAll("```(text)?", "").replaceAll("=+ [IV]+\\.", "");
        for (String piece : plain.split("\n")) {
            if (EDGE.matcher(piece).find()) pieces.add(piece.trim());
        }
        return pieces;
    }

    static void close() {
        for (String piece : untested()) {
            place = "the document, \"" + piece + "\": ";
            fault("no test is of it");
        }
        for (int p = 1; p <= PROMISES; p++) {
            place = "promise " + p + ": ";
            if (testsOf[p] == 0) fault("no test is of it");
        }
        System.out.println("tests of the promises 1 .. 48: " + Arrays.stream(testsOf).skip(1).mapToObj(String::valueOf).collect(Collectors.joining(" ")));
        System.out.println(tests + " edges looked at, " + asked + " answers asked for, " + wrong + " not as due");
        if (wrong != 0) System.exit(1);
    }

    // ---- calls

    /** What the call, told as it is written, answers. */
    static long ask(JealousByCalendar x, String call) {
        int open = call.indexOf('(');
        Method method = CALLS.get(call.substring(0, open));
        String inside = call.substring(open + 1, call.length() - 1);
        String[] parts = inside.isEmpty() ? new String[0] : inside.split(", *");
        Object[] args = new Object[parts.length];
        for (int i = 0; i < parts.length; i++) args[i] = Integer.parseInt(parts[i]);
        try {
            return ((Number) method.invoke(x, args)).longValue();
        } catch (InvocationTargetException | IllegalAccessException e) {
            throw new IllegalStateException(call + ": " + e.getCause(), e);
        }
    }

    static void due(JealousByCalendar x, String call, long want) {
        due(call, ask(x, call), want);
    }

    static void due(String call, long got, long want) {
        asked++;
        if (got != want) fault(call + " answered " + got + ", due is " + want);
    }

    /** Calls whose answers are not asked for here; none of them may be refused. */
    static void does(JealousByCalendar x, String... calls) {
        int before = refusals(x);
        for (String call : calls) ask(x, call);
        if (refusals(x) != before) fault(Arrays.toString(calls) + " is refused");
    }

    static int refusals(JealousByCalendar x) {
        int many = 0;
        for (int what = 11; what <= 16; what++) many += x.count(what);
        return many;
    }

    // ---- states

    /** A new object to which the text was told, in marriages of 96 letters at most. */
    static JealousByCalendar told(String text) {
        JealousByCalendar x = new JealousByCalendar();
        StringBuilder part = new StringBuilder();
        for (String statement : text.isEmpty() ? new String[0] : text.split("(?<=;)")) {
            if (part.length() + statement.length() > LETTERS) comes(x, part);
            part.append(statement);
        }
        comes(x, part);
        return x;
    }

    private static void comes(JealousByCalendar x, StringBuilder part) {
        if (part.length() > 0 && tell(x, part.toString()) < 0) fault(part + " can not be told");
        part.setLength(0);
    }

    static int tell(JealousByCalendar x, String letters) {
        for (int i = 0; i < letters.length(); i++) x.feed(letters.charAt(i));
        return x.marriage();
    }

    /** The letters by which so many days end. */
    static String days(int many) {
        return "d9;".repeat(many / 9) + "d" + many % 9 + ";";
    }

    static JealousByCalendar atDay(int day) {
        return told(days(day));
    }

    /** So many causes of the kind, figure and owner, the first found on a day, each later one so many days later. */
    static String causes(int many, int kind, int figure, int who, int found, int step) {
        StringBuilder text = new StringBuilder();
        for (int c = 0; c < many; c++) {
            text.append(String.format("c%d%d%d%02d;", kind, figure, who, found + c * step));
        }
        return text.toString();
    }

    static void row(JealousByCalendar x, int... numbers) {
        x.clear();
        for (int v : numbers) {
            if (x.row(v) < 0) fault(v + " is refused by the row");
        }
    }

    // ---- refusals

    /** The call is refused with the answer; it is counted once under its code; all else is as without it. */
    static void refused(Supplier<JealousByCalendar> state, String call, long answer, int code) {
        for (int view = 0; view < 2; view++) {
            JealousByCalendar with = state.get();
            JealousByCalendar without = state.get();
            due(with, call, answer);
            for (int c = 1; c <= 6; c++) {
                due(call + " count(" + (10 + c) + ")", with.count(10 + c), without.count(10 + c) + (c == -code ? 1 : 0));
            }
            due(call + ": all else is as it was, view " + view, view(with, view).equals(view(without, view)) ? 1 : 0, 1);
        }
    }

    /** The call is refused as an int. */
    static void refused(Supplier<JealousByCalendar> state, String call, int code) {
        refused(state, call, code, code);
    }

    /** The call is not refused. */
    static void taken(JealousByCalendar x, String call) {
        int before = refusals(x);
        ask(x, call);
        due(call + " is taken: refusals", refusals(x), before);
    }

    private static List<Long> view(JealousByCalendar x, int view) {
        List<Long> seen = new ArrayList<>();
        look(x, seen, true);
        if (view == 0) {
            for (int i = 0; i < 9; i++) {
                seen.add((long) x.back());
                look(x, seen, false);
            }
            return seen;
        }
        see(x, seen, "law(0)", "law(1)", "friends(0)", "friends(1)", "meant(0, 0)", "judge(0)", "marriage()");
        look(x, seen, false);
        see(x, seen, "restore()");
        look(x, seen, true);
        return seen;
    }

    static void look(JealousByCalendar x, List<Long> seen, boolean closely) {
        for (int what = 0; what <= 6; what++) see(x, seen, "count(" + what + ")");
        for (int what = 0; what <= 4; what++) see(x, seen, "one(0, " + what + ")", "one(1, " + what + ")");
        int many = closely ? x.count(0) : 0;
        for (int c = 0; c < many; c++) {
            for (int what = 0; what <= 8; what++) see(x, seen, "cause(" + c + ", " + what + ")");
        }
    }

    static List<Long> look(JealousByCalendar x) {
        List<Long> seen = new ArrayList<>();
        look(x, seen, true);
        return seen;
    }

    private static void see(JealousByCalendar x, List<Long> seen, String... calls) {
        for (String call : calls) seen.add(ask(x, call));
    }
}
