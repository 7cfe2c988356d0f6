import java.lang.reflect.Method;
import java.lang.reflect.Modifier;
import java.nio.file.Files;
import java.nio.file.Path;
import java.util.HashMap;
import java.util.Map;
import java.util.regex.Matcher;
import java.util.regex.Pattern;

/** README.md is right: its calls answer what stands behind them, and it tells each call. Arguments: it, the document. */
public final class ReadmeTest {
    private static final Pattern CALL = Pattern.compile("(?m)^x\\.(\\w+)\\((.*?)\\); *// (-?\\d+)(:.*)?$");
    private static final Pattern FACE = Pattern.compile("(?m)^ *public (?:int|long) (\\w+)\\((.*)\\);$");
    private static int wrong = 0;

    private static void must(boolean so, String what) {
        if (!so) {
            wrong++;
            System.out.println("README.md: " + what);
        }
    }

    public static void main(String[] args) throws Exception {
        String readme = Files.readString(Path.of(args.length > 0 ? args[0] : "README.md"));
        String document = Files.readString(Path.of(args.length > 1 ? args[1] : "../shared/DOC.md"));
        int calls = askAll(readme);
        int told = lookForCalls(readme, document);
        tellMarriages(readme);
        for (String answer : new String[] {"-1", "-2", "-3", "-4", "-6"}) {
            must(readme.contains("\n| " + answer + " | "), "refusal " + answer + " is not told");
        }
        for (String run : new String[] {"\n.ci/run\n", "LanguageTest", "ReadmeTest", "PromiseTest", "EdgeTest", "RobustTest", "OracleTest"}) {
            must(readme.contains(run), run + " is not told");
        }
        System.out.println(calls + " calls asked, " + told + " calls told, " + wrong + " not so");
        if (wrong != 0) System.exit(1);
    }

    private static int askAll(String readme) throws Exception {
        Map<String, Method> methods = new HashMap<>();
        for (Method m : JealousByCalendar.class.getDeclaredMethods()) {
            if (Modifier.isPublic(m.getModifiers())) methods.put(m.getName(), m);
        }
        JealousByCalendar x = new JealousByCalendar();
        int calls = 0;
        Matcher m = CALL.matcher(readme);
        while (m.find()) {
            calls++;
            Method method = methods.get(m.group(1));
            String[] parts = m.group(2).isEmpty() ? new String[0] : m.group(2).split(", ");
            must(method != null && method.getParameterCount() == parts.length, m.group() + " is no call");
            if (method == null || method.getParameterCount() != parts.length) continue;
            Object[] numbers = new Object[parts.length];
            for (int i = 0; i < parts.length; i++) numbers[i] = number(parts[i]);
            String answer = String.valueOf(method.invoke(x, numbers));
            must(answer.equals(m.group(3)), m.group() + " answered " + answer);
        }
        long lines = readme.lines().filter(line -> line.startsWith("x.")).count();
        must(calls == lines, lines - calls + " calls have no answer behind them");
        must(calls >= 10, "too few calls");
        return calls;
    }

    private static void tellMarriages(String readme) {
        Matcher m = Pattern.compile("`((?:[wpcud]\\d+;)+)`").matcher(readme);
        must(m.find(), "no MARRIAGE is told");
        m.reset();
        while (m.find()) {
            JealousByCalendar x = new JealousByCalendar();
            for (char letter : m.group(1).toCharArray()) x.feed(letter);
            int answer = x.marriage();
            must(answer == m.group(1).chars().filter(letter -> letter == ';').count(), m.group() + " is told: " + answer);
        }
    }

    private static int number(String text) {
        return text.startsWith("'") ? text.charAt(1) : Integer.parseInt(text);
    }

    /** Each call of the document's face stands in a table, with its parameters by the document's names. */
    private static int lookForCalls(String readme, String document) {
        int told = 0;
        Matcher m = FACE.matcher(document);
        while (m.find()) {
            String call = "`" + m.group(1) + "(" + m.group(2).replaceAll("\\bint ", "") + ")`";
            boolean isTold = Pattern.compile("(?m)^\\| .*" + Pattern.quote(call) + ".* \\| .+ \\|$").matcher(readme).find();
            must(isTold, call + " is not told");
            told += isTold ? 1 : 0;
        }
        must(told >= 46, "a call of the document is missing");
        return told;
    }
}
