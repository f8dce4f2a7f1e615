import java.io.IOException;
import java.lang.reflect.Constructor;
import java.lang.reflect.Executable;
import java.lang.reflect.Field;
import java.lang.reflect.Method;
import java.lang.reflect.Modifier;
import java.nio.file.Files;
import java.nio.file.Path;
import java.util.Set;
import java.util.TreeSet;
import java.util.regex.Matcher;
import java.util.regex.Pattern;

/** The public face, as the document writes it, and what of ../shared/LANGUAGE.md shows in the compiled class. */
public final class FaceTest {
    private static final Pattern LINE = Pattern.compile("public ([^;]*);");
    private static final String FACE = """
        public static final int NONE = -1;
        public TwoMasters();
        public int feed(int a, int b, int c, int d, int e);
        public int school(int n);
        public int fault();
        public int where();
        public int ways();
        public int worlds();
        public int world(int i);
        public int lawful(int way);
        public int culprit();
        public int sure(int thing);
        public int may(int thing);
        public int likely(int thing, int answer, boolean lower);
        public int settled();
        public int right(int saying);
        public int wrongs(int master, boolean least);
        public int proof(int thing);
        public int proofBy(int thing);
        public int worst();
        public int first();
        public int mean(boolean lower);
        public int meanFirst();
        public int left(int master, int thing);
        public int listen();
        public int believes(int child, int thing);
        public int knows(int child);
        public int share(int children);
        public int passes(int child, int need, boolean lower);
        public int agree(int master, int other, boolean alike);
        public int home(int thing);
        public int bestHome();
        public int byLaws(int laws);
        public int cheapest();
        public int years(int v, int t, int y);
        public int still(int v, int y, int w);
        public boolean seed(int v);
        public int draw();
        public int tries(int thing);
        public int fact(int thing);
        public int spent();
        public int mark();
        public boolean back(int mark);
        public int saying(int i, int what);
        public int led(int i) throws NoSuchElementException;
        public int size(int what);
        public int trouble();
        """;
    private static int wrong = 0;

    private static void due(String what, Object got, Object want) {
        if (!got.equals(want)) {
            wrong++;
            System.out.println(what + ": " + got + ", due is " + want);
        }
    }

    private static void hold(String what, boolean holds) {
        due(what, holds, true);
    }

    /** The document's lines, without the names of parameters. */
    private static Set<String> facePromised() {
        Matcher lines = LINE.matcher(FACE);
        Set<String> face = new TreeSet<>();
        while (lines.find()) {
            face.add(lines.group(1).replaceAll("(int|boolean) \\w+(?=[,)])", "$1"));
        }
        return face;
    }

    private static String parameters(Executable e) {
        StringBuilder all = new StringBuilder("(");
        for (Class<?> type : e.getParameterTypes()) {
            all.append(all.length() == 1 ? "" : ", ").append(type.getSimpleName());
        }
        all.append(")");
        for (Class<?> thrown : e.getExceptionTypes()) {
            all.append(" throws ").append(thrown.getSimpleName());
        }
        return all.toString();
    }

    private static Set<String> faceThatIs() throws IllegalAccessException {
        Set<String> face = new TreeSet<>();
        for (Field f : TwoMasters.class.getDeclaredFields()) {
            if (!Modifier.isPrivate(f.getModifiers())) {
                face.add(Modifier.toString(f.getModifiers()).replace("public ", "") + " " + f.getType().getSimpleName()
                    + " " + f.getName() + " = " + f.get(null));
            }
        }
        for (Constructor<?> c : TwoMasters.class.getDeclaredConstructors()) {
            if (!Modifier.isPrivate(c.getModifiers())) {
                face.add("TwoMasters" + parameters(c));
            }
        }
        for (Method m : TwoMasters.class.getDeclaredMethods()) {
            if (!Modifier.isPrivate(m.getModifiers())) {
                face.add(m.getReturnType().getSimpleName() + " " + m.getName() + parameters(m));
                due("modifiers of " + m.getName(), Modifier.toString(m.getModifiers()), "public");
            }
        }
        return face;
    }

    /** Rule 1: "No private method bears the name of a public one". */
    private static void privateNames() {
        Set<String> names = new TreeSet<>();
        for (Method m : TwoMasters.class.getDeclaredMethods()) {
            if (Modifier.isPublic(m.getModifiers())) {
                names.add(m.getName());
            }
        }
        for (Method m : TwoMasters.class.getDeclaredMethods()) {
            hold("a name of its own for " + m.getName(), Modifier.isPublic(m.getModifiers()) || !names.contains(m.getName()));
        }
    }

    /** Rules 1, 2, 5 and 11: how a class stands, its static fields, how many fields and parameters. */
    private static void classKeepsBounds(Class<?> c) {
        String name = c.getSimpleName();
        int fields = 0;
        for (Field f : c.getDeclaredFields()) {
            boolean isStatic = Modifier.isStatic(f.getModifiers());
            fields += isStatic ? 0 : 1;
            hold(name + "." + f.getName() + " is final if it is static", !isStatic || Modifier.isFinal(f.getModifiers()));
            hold(name + "." + f.getName() + " is a number if it is static", !isStatic || f.getType().isPrimitive());
        }
        hold(name + " has at most 20 fields, not " + fields, fields <= 20);
        for (Method m : c.getDeclaredMethods()) {
            hold(name + "." + m.getName() + " has at most 7 parameters", m.getParameterCount() <= 7);
        }
    }

    /** The source makes and throws only what rules 4 and 6 list. */
    private static void source() throws IOException {
        String text = Files.readString(Path.of("src/main/java/TwoMasters.java"));
        for (String line : text.split("\n")) {
            hold("imported by the document or rule 4: " + line, !line.startsWith("import ")
                || line.equals("import java.util.Arrays;") || line.equals("import java.util.NoSuchElementException;"));
        }
        hold("no package", !text.startsWith("package"));
        hold("no catch", !text.contains("catch ("));
        hold("no lambda, no reference to a method", !text.contains("->") && !text.contains("::"));
        hold("no function that ends in Exact", !text.contains("Exact("));
        hold("no String joined or made", !text.contains("String "));
        hold("no clock, randomness, thread or output", !text.matches("(?s).*\\b(System|Random|Thread|Runtime)\\b.*"));
        due("throw statements", text.split("throw new ", -1).length - 1, 1);
    }

    public static void main(String[] args) throws IOException, IllegalAccessException {
        Set<String> promised = facePromised();
        due("calls, constructor and constant of the document", promised.size(), 47);
        due("the face", faceThatIs(), promised);
        hold("the class is public and final", Modifier.toString(TwoMasters.class.getModifiers()).equals("public final"));
        privateNames();
        classKeepsBounds(TwoMasters.class);
        Class<?>[] inside = TwoMasters.class.getDeclaredClasses();
        hold("at most 12 classes", inside.length + 1 <= 12);
        for (Class<?> c : inside) {
            hold(c.getSimpleName() + " is static", Modifier.isStatic(c.getModifiers()));
            hold(c.getSimpleName() + " isn't seen outside", (c.getModifiers() & (Modifier.PUBLIC | Modifier.PROTECTED)) == 0);
            classKeepsBounds(c);
        }
        source();
        System.out.println(wrong == 0 ? "the face is as due" : wrong + " things are not as due");
        if (wrong != 0) {
            System.exit(1);
        }
    }
}
