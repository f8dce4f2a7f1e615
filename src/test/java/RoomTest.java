import com.sun.management.ThreadMXBean;
import java.lang.management.ManagementFactory;
import java.nio.charset.StandardCharsets;
import java.util.Arrays;

/** What the dearest runs of 512 calls make: it must stay far under the room of 7.3 million elements. */
public final class RoomTest {
    private static final long ELEMENT = 8;
    private static int wrong = 0;
    private static final ThreadMXBean THREADS = (ThreadMXBean) ManagementFactory.getThreadMXBean();

    private static long made() {
        return THREADS.getThreadAllocatedBytes(Thread.currentThread().getId());
    }

    private static void under(String what, long bytes, long most) {
        if (bytes > most * ELEMENT) {
            wrong++;
            System.out.println(what + " made " + bytes + " bytes, more than " + most + " elements of 8");
        }
    }

    private static int[][] numbers(String text) {
        byte[] bytes = Arrays.copyOf(text.getBytes(StandardCharsets.ISO_8859_1), (text.length() + 19) / 20 * 20);
        int[][] numbers = new int[bytes.length / 20][5];
        for (int i = 0; i < bytes.length; i++) {
            numbers[i / 20][i % 20 / 4] = numbers[i / 20][i % 20 / 4] << 8 | bytes[i] & 255;
        }
        return numbers;
    }

    private static String greatSchool(int law) {
        StringBuilder text = new StringBuilder();
        int[] answers = {4, 2, 4, 2, 4, 2, 4, 2};
        for (int t = 0; t < 8; t++) {
            text.append("thing ").append((char) ('a' + t)).append(" answers ").append(answers[t]).append(";");
            text.append("trial ").append((char) ('a' + t)).append(" cost ").append(t + law).append(";");
        }
        for (int m = 0; m < 6; m++) {
            text.append("master m").append((char) ('a' + m)).append(" plain;");
        }
        for (int i = 0; i < 16; i++) {
            text.append("says m").append((char) ('a' + i % 6)).append(" ").append((char) ('a' + i % 8)).append(" 1;");
        }
        return text.append("child x hears ma,mb;law wrong ").append(law).append(";law runs").toString();
    }

    private static void enter(TwoMasters x, int[][] numbers, int length) {
        for (int[] n : numbers) {
            x.feed(n[0], n[1], n[2], n[3], n[4]);
        }
        if (x.school(length) != 8) {
            wrong++;
            System.out.println("the great school has a fault " + x.fault() + " at " + x.where());
        }
    }

    private static void callAll(TwoMasters x, int i) {
        x.proof(i & 7);
        x.worst();
        x.mean(true);
        x.listen();
        x.left(i % 6, i & 7);
        x.passes(0, 2, true);
        x.cheapest();
        x.bestHome();
        x.culprit();
        x.still(1, 40, 1000000);
        x.draw();
        x.tries(i & 7);
    }

    private static void oneObject() {
        String text = greatSchool(4);
        int[][] numbers = numbers(text);
        callAll(new TwoMasters(), 0);
        long before = made();
        TwoMasters x = new TwoMasters();
        enter(x, numbers, text.length());
        for (int i = 0; i < 40; i++) {
            callAll(x, i);
        }
        under("one object with a great school", made() - before, 200000);
    }

    private static void manySchools() {
        long before = made();
        TwoMasters x = new TwoMasters();
        for (int i = 0; i < 10; i++) {
            String text = greatSchool(1 + i % 8);
            enter(x, numbers(text), text.length());
            callAll(x, i);
        }
        under("one object with many schools", made() - before, 400000);
    }

    private static void manyObjects() {
        long before = made();
        TwoMasters x = null;
        for (int i = 0; i < 512; i++) {
            x = new TwoMasters();
        }
        under("512 objects, last of size " + x.size(0), made() - before, 3000000);
    }

    public static void main(String[] args) {
        oneObject();
        manySchools();
        manyObjects();
        System.out.println(wrong == 0 ? "all keeps in its room" : wrong + " runs need too much room");
        if (wrong != 0) {
            System.exit(1);
        }
    }
}
