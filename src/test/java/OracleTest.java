import java.lang.reflect.Method;
import java.util.ArrayList;
import java.util.HashMap;
import java.util.List;
import java.util.Map;
import java.util.Random;

/** Random runs of calls, each answer held against NaiveCalendar. Arguments: how many runs, the seed. */
public final class OracleTest {
    // What each call takes: o one of the two, n a day, k kind, f figure, c cause, w weekday, x what
    // (behind it the greatest), and numbers of its own: t, y (weeks), m, r (row), z (seed), i (index), l (years).
    private static final String[] CALLS = {
        "marriage", "one o x4", "cause c x8", "add k f o d", "use c", "use c", "use c", "end", "end", "back", "back",
        "needed o n", "byHand o n x1", "laid o n i", "laid o n i", "wasted o n", "worth c n", "notAll o n",
        "settled o w n", "bestWeekday o n", "neither n", "turns x1", "months w m x2", "meant o x2", "law x1", "friends x1",
        "chance t y x1", "keep t", "run o n x2", "gift o f n", "when o k f n", "changed n", "alike x1", "spare n x1",
        "over x1", "streak o n x1", "quarrel n x1", "swapped n", "usedOn o n", "delay o n", "need o n", "loss n x1",
        "heavyDay n x1", "row r", "judge o", "clear", "lots l z", "image", "restore", "count x6", "count q",
    };
    private static final int LONGEST_RUN = 512;

    private final Random random;
    private final Map<String, Method> real = new HashMap<>();
    private final Map<String, Method> naive = new HashMap<>();
    private JealousByCalendar x;
    private NaiveCalendar y;
    private final List<String> told = new ArrayList<>();
    private int calls;
    private int wrong;
    private final Map<String, Integer> answered = new HashMap<>();

    private OracleTest(long seed) {
        random = new Random(seed);
        for (Method m : JealousByCalendar.class.getDeclaredMethods()) real.put(m.getName(), m);
        for (Method m : NaiveCalendar.class.getDeclaredMethods()) naive.put(m.getName() + m.getParameterCount(), m);
    }

    public static void main(String[] args) throws Exception {
        int runs = args.length > 0 ? Integer.parseInt(args[0]) : 400;
        OracleTest test = new OracleTest(args.length > 1 ? Long.parseLong(args[1]) : 20261118L);
        int calls = 0;
        for (int r = 0; r < runs && test.wrong < 5; r++) {
            test.run();
            calls += test.calls;
        }
        System.out.println(calls + " calls in " + runs + " runs, " + test.wrong + " answers differ");
        if (test.answered.size() < real(CALLS)) {
            System.out.println("not every call was answered: " + test.answered.keySet());
            System.exit(1);
        }
        if (test.wrong != 0) System.exit(1);
    }

    private static int real(String[] calls) {
        List<String> names = new ArrayList<>();
        for (String call : calls) {
            String name = call.split(" ")[0];
            if (!names.contains(name)) names.add(name);
        }
        return names.size();
    }

    private void run() throws Exception {
        x = new JealousByCalendar();
        y = new NaiveCalendar();
        told.clear();
        calls = 0;
        open();
        int length = 60 + random.nextInt(200);
        int before = wrong;
        while (calls < length && wrong == before) step();
        while (calls > LONGEST_RUN) throw new IllegalStateException("a run is too long");
    }

    private void open() throws Exception {
        if (random.nextInt(4) == 0) call("set", 0, 0, random.nextInt(7));
        if (random.nextInt(3) == 0) call("set", 1, 0, y.now.weekday[0]);
        if (random.nextInt(4) == 0) call("set", random.nextInt(2), 1, random.nextInt(40));
        if (random.nextInt(4) == 0) call("set", random.nextInt(2), 1, 960 + random.nextInt(40));
        int causes = random.nextInt(13);
        int near = 7 + random.nextInt(77);
        for (int c = 0; c < causes; c++) {
            call("add", random.nextInt(6), random.nextInt(10), random.nextInt(3) == 0 ? 1 : 0, random.nextInt(near));
        }
        int days = random.nextInt(12) == 0 ? 83 : random.nextInt(3) == 0 ? random.nextInt(30) : 0;
        for (int d = 0; d < days && calls < 150; d++) {
            call("end");
            for (int c = 0; c < causes && random.nextInt(4) == 0; c++) call("use", c);
        }
    }

    private void step() throws Exception {
        int what = random.nextInt(30);
        if (what == 0) {
            tell();
        } else if (what == 1) {
            fillRow();
        } else if (what == 2) {
            call("set", one(), random.nextInt(2), wild(random.nextInt(7), 6));
        } else if (what == 3) {
            call("set", one(), 1, wild(random.nextInt(1000), 999));
        } else {
            String[] parts = CALLS[random.nextInt(CALLS.length)].split(" ");
            int[] args = new int[parts.length - 1];
            for (int i = 0; i < args.length; i++) args[i] = argument(parts[i + 1]);
            call(parts[0], args);
        }
    }

    private int one() {
        return random.nextInt(25) == 0 ? (random.nextBoolean() ? -1 : 2) : random.nextInt(2);
    }

    /** The number, seldom one outside of 0 .. most. */
    private int wild(int v, int most) {
        switch (random.nextInt(40)) {
            case 0: return most + 1;
            case 1: return -1;
            case 2: return random.nextInt(10) == 0 ? random.nextInt() : v;
            default: return v;
        }
    }

    private int argument(String kind) {
        switch (kind.charAt(0)) {
            case 'o': return one();
            case 'n': return random.nextInt(25) == 0 ? y.now.day - 1
                : wild(random.nextInt(3) == 0 ? 83 : y.now.day + random.nextInt(84 - y.now.day), 83);
            case 'd': return wild(random.nextInt(84), 83);
            case 'k': return wild(random.nextInt(6), 5);
            case 'f': return wild(random.nextInt(10), 9);
            case 'c': return wild(random.nextInt(Math.max(1, y.now.causes.size())), 11);
            case 'w': return wild(random.nextInt(7), 6);
            case 'x': return wild(random.nextInt(kind.charAt(1) - '0' + 1), kind.charAt(1) - '0');
            case 't': return wild(2 + random.nextInt(19), 20) - random.nextInt(40) / 39;
            case 'y': return wild(random.nextInt(13), 12);
            case 'm': return wild(7 + random.nextInt(25), 31) - random.nextInt(30) / 29;
            case 'r': return wild(random.nextInt(100), 99);
            case 'z': return random.nextInt();
            case 'l': return wild(1 + random.nextInt(3) * random.nextInt(10), 20);
            case 'i': return random.nextInt(3) == 0 ? -1 : random.nextInt(40) == 0 ? -2 : random.nextInt(14);
            default: return 8 + random.nextInt(12);
        }
    }

    private void fillRow() throws Exception {
        if (random.nextInt(4) != 0) call("clear");
        int who = random.nextInt(2);
        int many = random.nextInt(random.nextInt(3) == 0 ? 13 : 5);
        int kind = random.nextInt(4);
        int day = random.nextInt(20);
        for (int i = 0; i < many; i++) {
            day++;
            while (kind == 0 && day % 7 != y.now.weekday[who]) day++;
            if (kind == 0) call("row", day);
            if (kind == 1) call("row", random.nextInt(7));
            if (kind == 2) call("row", Math.min(99, y.now.run(Math.min(83, y.now.day + 1 + i)).purse[who]));
            if (kind == 3) call("row", random.nextInt(5) * 4);
        }
        if (kind == 0) call("meant", who, random.nextInt(3));
        if (kind == 1) call("friends", random.nextInt(2));
        if (kind == 2) call("judge", who);
        if (kind == 3) call("law", random.nextInt(2));
    }

    private void tell() throws Exception {
        StringBuilder text = new StringBuilder();
        for (int s = random.nextInt(6); s >= 0; s--) text.append(statement());
        if (random.nextInt(4) == 0) {
            text.setCharAt(random.nextInt(text.length()), "wpcud;0123456789 x".charAt(random.nextInt(18)));
        }
        int length = random.nextInt(8) == 0 ? random.nextInt(text.length() + 1) : text.length();
        for (int i = 0; i < length; i++) {
            call("feed", text.charAt(i));
            if (random.nextInt(300) == 0) call("feed", random.nextBoolean() ? 256 : -1);
        }
        call("marriage");
    }

    private String statement() {
        switch (random.nextInt(5)) {
            case 0: return "w" + one(0) + few(7, 6) + ";";
            case 1: return "p" + one(0) + String.format("%03d", random.nextInt(1000)) + ";";
            case 2: return "c" + few(6, 5) + random.nextInt(10) + one(0) + String.format("%02d", few(84, 83)) + ";";
            case 3: return "u" + String.format("%02d", few(Math.max(1, y.now.causes.size()), 11)) + ";";
            default: return "d" + random.nextInt(random.nextInt(3) == 0 ? 10 : 3) + ";";
        }
    }

    private int one(int none) {
        return few(2, 1) + none;
    }

    private int few(int many, int most) {
        return random.nextInt(40) == 0 ? most + 1 : random.nextInt(many);
    }

    private void call(String name, int... args) throws Exception {
        Object[] boxed = new Object[args.length];
        StringBuilder text = new StringBuilder(name).append('(');
        for (int i = 0; i < args.length; i++) {
            boxed[i] = args[i];
            text.append(i == 0 ? "" : ", ").append(args[i]);
        }
        calls++;
        long want = ((Number) naive.get(name + args.length).invoke(y, boxed)).longValue();
        long got = ((Number) real.get(name).invoke(x, boxed)).longValue();
        told.add(text.append(") = ").append(got).toString());
        answered.merge(name, 1, Integer::sum);
        if (got != want) {
            wrong++;
            System.out.println(String.join("\n", told) + "  <- due is " + want);
        }
    }
}
