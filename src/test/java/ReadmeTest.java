import java.io.IOException;
import java.lang.reflect.InvocationTargetException;
import java.lang.reflect.Method;
import java.nio.ByteBuffer;
import java.nio.IntBuffer;
import java.nio.charset.StandardCharsets;
import java.nio.file.Files;
import java.nio.file.Path;
import java.util.Arrays;
import java.util.List;
import java.util.regex.Matcher;
import java.util.regex.Pattern;

/**
 * README.md is read from the project's root: each text in it is opened, each row of its tables is
 * called, in their order on one object, and its Java is what this test itself uses.
 */
public final class ReadmeTest {
    private static final Pattern ROW = Pattern.compile("\\| `(\\w+)\\(([^)]*)\\)` \\| ([^|]+) \\|.*");
    private static final TwoMasters X = new TwoMasters();
    private static int wrong = 0;
    private static int rows = 0;
    private static int texts = 0;

    static int open(TwoMasters x, String text) {
        byte[] bytes = new byte[(text.length() + 19) / 20 * 20];
        Arrays.fill(bytes, (byte) ' ');
        System.arraycopy(text.getBytes(StandardCharsets.ISO_8859_1), 0, bytes, 0, text.length());
        IntBuffer numbers = ByteBuffer.wrap(bytes).asIntBuffer();
        while (numbers.hasRemaining()) {
            x.feed(numbers.get(), numbers.get(), numbers.get(), numbers.get(), numbers.get());
        }
        return x.school(text.length());
    }

    private static void due(String what, String got, String want) {
        if (!got.equals(want)) {
            wrong++;
            System.out.println(what + " answered " + got + ", README says " + want);
        }
    }

    private static Method method(String name) {
        for (Method m : TwoMasters.class.getDeclaredMethods()) {
            if (m.getName().equals(name)) {
                return m;
            }
        }
        throw new IllegalArgumentException("README calls " + name);
    }

    private static Object[] arguments(Method m, String written) {
        String[] parts = written.isEmpty() ? new String[0] : written.split(", ");
        Object[] all = new Object[parts.length];
        for (int i = 0; i < parts.length; i++) {
            boolean truth = m.getParameterTypes()[i] == boolean.class;
            all[i] = truth ? (Object) Boolean.valueOf(parts[i]) : (Object) Integer.valueOf(parts[i]);
        }
        return all;
    }

    /** A row's answer: a number, true, false, NONE, or an exception's name; of a refused call its TROUBLE too. */
    private static void callRow(Matcher row) throws IllegalAccessException {
        rows++;
        String call = row.group(1) + "(" + row.group(2) + ")";
        String[] want = row.group(3).split(", ");
        Method m = method(row.group(1));
        String got;
        try {
            got = m.invoke(X, arguments(m, row.group(2))).toString();
        } catch (InvocationTargetException e) {
            got = e.getCause().getClass().getSimpleName();
        }
        due(call, got, want[0].equals("NONE") ? "-1" : want[0]);
        if (want.length > 1) {
            due("trouble() after " + call, "" + X.trouble(), want[1]);
        }
    }

    /** The LINES of a block, from the one behind its opening fence on. */
    private static String block(List<String> readme, int from) {
        StringBuilder text = new StringBuilder();
        for (int i = from; !readme.get(i).equals("```"); i++) {
            text.append(text.length() == 0 ? "" : "\n").append(readme.get(i));
        }
        return text.toString();
    }

    private static void openText(String text) {
        texts++;
        int things = open(X, text.replace('\n', ' '));
        due("the text that begins " + text.split("\n")[0], "" + things, texts == 1 ? "2" : "-1");
    }

    public static void main(String[] args) throws IOException, IllegalAccessException {
        List<String> readme = Files.readAllLines(Path.of("README.md"));
        String own = Files.readString(Path.of("src/test/java/ReadmeTest.java"));
        for (int i = 0; i < readme.size(); i++) {
            Matcher row = ROW.matcher(readme.get(i));
            if (readme.get(i).equals("```text")) {
                openText(block(readme, i + 1));
            } else if (readme.get(i).equals("```java")) {
                due("README's Java is in this test", "" + own.contains(block(readme, i + 1)), "true");
            } else if (row.matches()) {
                callRow(row);
            }
        }
        due("texts in README.md", "" + texts, "2");
        due("there are rows in README.md", "" + (rows > 30), "true");
        System.out.println(wrong == 0 ? rows + " rows: all answers are as due" : wrong + " answers are not as due");
        if (wrong != 0) {
            System.exit(1);
        }
    }
}
