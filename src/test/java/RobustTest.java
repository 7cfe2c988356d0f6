import java.lang.management.ManagementFactory;
import java.lang.reflect.InvocationTargetException;
import java.lang.reflect.Method;
import java.util.Arrays;
import java.util.Comparator;
import java.util.Random;

/** Any arguments in any state: no call fails; and a run of 512 calls makes next to nothing. */
public final class RobustTest {
    private static final int[] STRANGE = {
        Integer.MIN_VALUE, Integer.MIN_VALUE + 1, -1000, -10, -2, -1, 0, 1, 2, 3, 5, 6, 7, 8, 9, 11, 12, 13, 20, 21, 31, 32,
        48, 59, 83, 84, 99, 100, 119, 255, 256, 998, 999, 1000, Integer.MAX_VALUE - 1, Integer.MAX_VALUE,
    };
    private static final int RUN = 512;
    // Well below the room of a whole run: 7.3 million fields and elements.
    private static final long MOST_BYTES = 200_000;

    public static void main(String[] args) throws Exception {
        Method[] calls = Arrays.stream(JealousByCalendar.class.getDeclaredMethods())
            .filter(m -> java.lang.reflect.Modifier.isPublic(m.getModifiers()))
            .sorted(Comparator.comparing(Method::getName)).toArray(Method[]::new);
        Random random = new Random(512);
        int wrong = 0;
        for (int run = 0; run < 300 && wrong == 0; run++) {
            JealousByCalendar x = new JealousByCalendar();
            for (int i = 0; i < RUN && wrong == 0; i++) {
                wrong += ask(x, calls[random.nextInt(calls.length)], random) ? 0 : 1;
            }
        }
        long bytes = made();
        System.out.println("300 runs of strange calls; a run of 512 calls makes " + bytes + " bytes");
        if (bytes > MOST_BYTES) {
            System.out.println("that is too much");
            wrong++;
        }
        if (wrong != 0) System.exit(1);
    }

    private static boolean ask(JealousByCalendar x, Method call, Random random) throws IllegalAccessException {
        Object[] args = new Object[call.getParameterCount()];
        for (int i = 0; i < args.length; i++) {
            args[i] = random.nextInt(3) == 0 ? STRANGE[random.nextInt(STRANGE.length)] : random.nextInt(random.nextBoolean() ? 84 : 4);
        }
        try {
            call.invoke(x, args);
            return true;
        } catch (InvocationTargetException e) {
            System.out.println(call.getName() + Arrays.toString(args) + " failed with " + e.getCause());
            return false;
        }
    }

    /** What one run of the dearest calls makes, in bytes; the first run is for the machine to get ready. */
    private static long made() {
        com.sun.management.ThreadMXBean threads = (com.sun.management.ThreadMXBean) ManagementFactory.getThreadMXBean();
        dearRun();
        long before = threads.getCurrentThreadAllocatedBytes();
        dearRun();
        return threads.getCurrentThreadAllocatedBytes() - before;
    }

    private static long dearRun() {
        JealousByCalendar x = new JealousByCalendar();
        long sum = 0;
        for (int c = 0; c < 11; c++) sum += x.add(5, 9 - c % 3, 0, c * 7);
        for (int i = 0; i < 8; i++) sum += x.row(7 * i);
        for (int i = 0; i < 38; i++) {
            sum += x.laid(0, 83, 11) + x.when(0, 5, 9, 83) + x.delay(0, 83) + x.lots(20, i) + x.meant(0, 1) + x.loss(83, 1)
                + x.need(1, 83) + x.neither(83) + x.alike(1) + x.spare(83, 0) + x.changed(83) + x.friends(0) + x.image();
        }
        return sum;
    }
}
