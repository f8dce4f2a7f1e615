import java.lang.reflect.InvocationTargetException;
import java.lang.reflect.Method;
import java.nio.charset.StandardCharsets;
import java.util.Arrays;
import java.util.Comparator;
import java.util.NoSuchElementException;
import java.util.function.IntUnaryOperator;

/**
 * What the tests of boundary cases share (each extends this class): one object on the desk, and the tests of a class run one
 * by one. A test is a static method named after its promise's number: promise07_whatItShows.
 */
abstract class Desk {
    /** What led() counts for if it throws. */
    static final int THROWN = -9;
    static TwoMasters x;
    private static String test = "";
    private static int wrong;

    static void due(String what, long got, long want) {
        if (got != want) {
            wrong++;
            System.out.println(test + ": " + what + " answered " + got + ", due is " + want);
        }
    }

    static void due(String what, String got, String want) {
        if (!got.equals(want)) {
            wrong++;
            System.out.println(test + ": " + what + ": " + got + ", due is " + want);
        }
    }

    /** A call that isn't refused. */
    static void good(String call, long got, long want) {
        due(call, got, want);
        due("trouble() after " + call, x.trouble(), 0);
    }

    static void good(String call, boolean got) {
        good(call, got ? 1 : 0, 1);
    }

    static void refused(String call, long got, int reason) {
        due(call, got, -1);
        due("trouble() after " + call, x.trouble(), reason);
    }

    static void refused(String call, boolean got, int reason) {
        due(call, got ? 1 : 0, 0);
        due("trouble() after " + call, x.trouble(), reason);
    }

    /** Each number on the wrong side of 0 .. count - 1 is refused; call has a # where it stands. */
    static void outside(String call, int count, int reason, IntUnaryOperator by) {
        int[] numbers = {-1, -2, -32, Integer.MIN_VALUE, count, count + 1, count + 32, count + 256, Integer.MAX_VALUE};
        for (int n : numbers) {
            refused(call.replace("#", "" + n), by.applyAsInt(n), reason);
        }
    }

    /** A new object without SCHOOL. */
    static void none() {
        x = new TwoMasters();
    }

    /** A new object with a SCHOOL. */
    static void open(String text) {
        none();
        enter(text);
    }

    static void enter(String text) {
        int things = tell(text);
        due("there are things in " + text, things > 0 ? 1 : 0, 1);
    }

    /** The text behind an empty TAPE, and what school() answers to it. */
    static int tell(String text) {
        feed(text);
        return x.school(text.length());
    }

    /** The last feed is filled up with bytes 0, which begin no TOKEN. */
    static int feed(String text) {
        byte[] bytes = Arrays.copyOf(text.getBytes(StandardCharsets.ISO_8859_1), (text.length() + 19) / 20 * 20);
        int fed = -3;
        for (int i = 0; i < bytes.length; i += 20) {
            int[] n = new int[5];
            for (int k = 0; k < 20; k++) {
                n[k / 4] = n[k / 4] << 8 | bytes[i + k] & 255;
            }
            fed = x.feed(n[0], n[1], n[2], n[3], n[4]);
        }
        return fed;
    }

    static int led(int i) {
        try {
            return x.led(i);
        } catch (NoSuchElementException e) {
            return THROWN;
        }
    }

    /** LINES alike but for a letter, a, b, c .. in place of each #. */
    static String lines(String line, int times) {
        StringBuilder text = new StringBuilder();
        for (int i = 0; i < times; i++) {
            text.append(i == 0 ? "" : ";").append(line.replace('#', (char) ('a' + i)));
        }
        return text.toString();
    }

    /** What the SCHOOL and the term are like, as far as calls show it; TROUBLE is another then. */
    static String state() {
        StringBuilder all = new StringBuilder("sizes");
        for (int what = 0; what <= 10; what++) {
            all.append(' ').append(x.size(what));
        }
        all.append(" ways ").append(x.ways()).append(" spent ").append(x.spent()).append(" facts");
        for (int t = 0; t < x.size(0); t++) {
            all.append(' ').append(x.fact(t));
        }
        int worlds = x.worlds();
        all.append(" worlds ").append(worlds).append(':');
        for (int i = 0; i < worlds && i < 12; i++) {
            all.append(' ').append(x.world(i));
        }
        return all.toString();
    }

    /** Runs all tests of a class, which has at least one of each promise from .. to, and ends. */
    static void runAll(Class<?> tests, int from, int to) {
        Method[] methods = tests.getDeclaredMethods();
        Arrays.sort(methods, Comparator.comparing(Method::getName));
        int[] ran = new int[100];
        for (Method m : methods) {
            if (m.getName().matches("promise[0-9][0-9]_.*")) {
                ran[Integer.parseInt(m.getName().substring(7, 9))]++;
                run(m);
            }
        }
        int all = 0;
        for (int p = from; p <= to; p++) {
            test = tests.getName();
            due("tests of promise " + p + " are there", ran[p] > 0 ? 1 : 0, 1);
            all += ran[p];
        }
        System.out.println(wrong == 0 ? all + " tests: all answers are as due" : wrong + " answers are not as due");
        if (wrong != 0) {
            System.exit(1);
        }
    }

    private static void run(Method m) {
        test = m.getName();
        try {
            m.invoke(null);
        } catch (InvocationTargetException e) {
            wrong++;
            System.out.println(test + " threw " + e.getCause() + " at " + e.getCause().getStackTrace()[0]);
        } catch (IllegalAccessException e) {
            wrong++;
            System.out.println(test + " can't be run: " + e);
        }
    }
}
