import java.lang.reflect.Field;
import java.lang.reflect.Method;
import java.lang.reflect.Modifier;
import java.nio.file.Files;
import java.nio.file.Path;
import java.util.Arrays;
import java.util.HashSet;
import java.util.List;
import java.util.Set;
import java.util.TreeSet;
import java.util.regex.Matcher;
import java.util.regex.Pattern;

/** The rules of LANGUAGE.md that can be seen by looking at the class and at its text. Argument: the file. */
public final class LanguageTest {
    private static final String FACE = "feed marriage one cause set add use end back needed byHand laid wasted worth notAll "
        + "settled bestWeekday neither turns months meant law friends chance keep run gift when changed alike spare over "
        + "streak quarrel swapped usedOn delay need loss heavyDay row judge clear lots image restore count";
    private static final String[] FORBIDDEN = {
        "\\bthrow\\b", "\\bthrows\\b", "\\btry\\b", "\\bcatch\\b", "\\bsynchronized\\b", "\\bassert\\b", "\\bimport\\b",
        "\\bpackage\\b", "->", "::", "static \\{", "\\bException\\b", "\\bSystem\\.(?!arraycopy)", "[a-z]Exact\\b",
        "\\bThread\\b", "\\bvolatile\\b", "\\bequals\\b", "\\bhashCode\\b", "\\btoString\\b",
    };
    private static int wrong = 0;

    private static void must(boolean so, String rule) {
        if (!so) {
            wrong++;
            System.out.println("not so: " + rule);
        }
    }

    public static void main(String[] args) throws Exception {
        Class<?> face = JealousByCalendar.class;
        Set<String> names = new TreeSet<>(Arrays.asList(FACE.split(" ")));
        lookAtFace(face, names);
        int classes = 1;
        lookAtClass(face, names);
        for (Class<?> inside : face.getDeclaredClasses()) {
            classes++;
            must(Modifier.isStatic(inside.getModifiers()), inside + " is static");
            lookAtClass(inside, names);
        }
        must(classes <= 12, "twelve classes at most");
        String text = Files.readString(Path.of(args.length > 0 ? args[0] : "src/main/java/JealousByCalendar.java"));
        lookAtText(text);
        lookForGaps(new JealousByCalendar(), text);
        System.out.println(classes + " classes looked at, " + wrong + " rules broken");
        if (wrong != 0) System.exit(1);
    }

    private static void lookAtFace(Class<?> face, Set<String> names) {
        must(Modifier.isPublic(face.getModifiers()) && Modifier.isFinal(face.getModifiers()), "public and final");
        Set<String> seen = new TreeSet<>();
        for (Method m : face.getDeclaredMethods()) {
            if (Modifier.isPublic(m.getModifiers())) {
                must(seen.add(m.getName()), m + " is the only one of its name");
            } else {
                must(Modifier.isPrivate(m.getModifiers()), m + " is private");
            }
        }
        must(seen.equals(names), "the public methods are those of the document");
        for (Field f : face.getDeclaredFields()) {
            must(Modifier.isPrivate(f.getModifiers()), f + " is private");
        }
        must(face.getDeclaredConstructors().length == 1, "one constructor");
    }

    private static void lookAtClass(Class<?> c, Set<String> names) {
        int fields = 0;
        for (Field f : c.getDeclaredFields()) {
            boolean isStatic = Modifier.isStatic(f.getModifiers());
            must(!isStatic || Modifier.isFinal(f.getModifiers()), f + " is final");
            fields += isStatic ? 0 : 1;
        }
        must(fields <= 20, c + " has twenty fields at most");
        for (Method m : c.getDeclaredMethods()) {
            must(m.getParameterCount() <= 7, m + " takes seven at most");
            must(Modifier.isPublic(m.getModifiers()) || !names.contains(m.getName()), m + " bears no public name");
            must(!m.isSynthetic(), m + " is no lambda");
        }
    }

    /** Rule 7: what a row of objects may lack is looked at against null, so nothing is taken of it in the same step. */
    private static void lookForGaps(Object thing, String text) throws IllegalAccessException {
        for (Field f : thing.getClass().getDeclaredFields()) {
            if (Modifier.isStatic(f.getModifiers())) continue;
            f.setAccessible(true);
            Object held = f.get(thing);
            if (held instanceof Object[]) {
                boolean hasGaps = Arrays.asList((Object[]) held).contains(null);
                boolean isTaken = Pattern.compile("\\b" + f.getName() + "\\[[^\\]]*\\]\\.").matcher(text).find();
                must(!hasGaps || !isTaken, f.getName() + " may hold null, so nothing is taken of it unlooked at");
                for (Object each : (Object[]) held) {
                    if (each != null) lookForGaps(each, text);
                }
            } else if (held != null && held.getClass().getName().startsWith(JealousByCalendar.class.getName())) {
                lookForGaps(held, text);
            }
        }
    }

    private static void lookAtText(String text) {
        String code = text.replaceAll("(?s)/\\*.*?\\*/", "").replaceAll("//[^\n]*", "");
        for (String forbidden : FORBIDDEN) {
            Matcher m = Pattern.compile(forbidden).matcher(code);
            must(!m.find(), forbidden + " does not stand in the text");
        }
        must(text.chars().allMatch(ch -> ch < 128), "signs below 128");
        must(!code.contains("\""), "no texts");
        Set<String> library = new HashSet<>();
        Matcher m = Pattern.compile("\\b(Math|Integer|Long|Arrays)\\.\\w+").matcher(code);
        while (m.find()) library.add(m.group());
        library.removeAll(List.of("Math.min", "Math.max", "Math.abs", "Integer.bitCount"));
        must(library.isEmpty(), "only the library's plainest: " + library);
        Matcher method = Pattern.compile("(?m)^( +)(private|public) [^;=\n]*\\) \\{\n((?s).*?)^\\1\\}$").matcher(text);
        int methods = 0;
        while (method.find()) {
            methods++;
            long lines = method.group(3).chars().filter(ch -> ch == '\n').count();
            must(lines <= 60, "sixty lines at most: " + method.group().split("\n")[0]);
        }
        must(methods > 100, "the methods are found");
    }
}
