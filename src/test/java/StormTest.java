import java.nio.charset.StandardCharsets;
import java.util.ArrayList;
import java.util.Arrays;
import java.util.HashMap;
import java.util.List;
import java.util.Map;
import java.util.NoSuchElementException;

/**
 * Texts of any tokens in any order, whose FAULT and place are compared with a second reading (by
 * patterns of lines), and calls with any numbers in any state, of which none but led may throw.
 */
public final class StormTest {
    private static int wrong = 0;
    private static long state = 46L;

    private static int random(int below) {
        state = state * 6364136223846793005L + 1442695040888963407L;
        return (int) ((state >>> 33) % below);
    }

    // ---- the second reading

    /** A token: its place, and itself; null for a byte that begins none, "" for the end. */
    private static List<Object[]> tokens(String text) {
        List<Object[]> tokens = new ArrayList<>();
        java.util.regex.Matcher m = java.util.regex.Pattern.compile("[a-z]+|[0-9]+|[^ ]").matcher(text);
        while (m.find()) {
            tokens.add(new Object[] {m.start(), m.group().matches("[a-z]{1,8}|[0-9]{1,3}|;|,") ? m.group() : null});
        }
        tokens.add(new Object[] {text.length(), ""});
        return tokens;
    }

    private static final Map<String, String[]> PATTERNS = new HashMap<>();

    static {
        // T, M, C: a told name; t, m, c: a new one; w, a, l, k: a whole of ways, of an answer, of a law, of a cost
        PATTERNS.put("thing", new String[] {"t", "answers", "w"});
        PATTERNS.put("follows", new String[] {"T", "a", ",", "S", "a"});
        PATTERNS.put("master", new String[] {"m", "plain|ever|blind|change"});
        PATTERNS.put("law", new String[] {"pair|runs|wrong"});
        PATTERNS.put("says", new String[] {"M", "T", "a"});
        PATTERNS.put("child", new String[] {"c", "hears", "H"});
        PATTERNS.put("trial", new String[] {"R", "cost", "k"});
    }

    private static final Map<String, Integer> ROOM = Map.of("thing", 8, "follows", 6, "master", 6, "law", 99,
        "says", 16, "child", 5, "trial", 99);

    private static Map<String, Integer> answersOf;
    private static Map<String, Character> sorts;
    private static List<String> once;
    private static String lastThing;
    private static int waysSoFar;

    /** The fault of one token where a part of a pattern must stand; 0 if it may. */
    private static int faultOf(String token, String part) {
        boolean word = token.matches("[a-z]+") && !PATTERNS.containsKey(token);
        if ("tmc".contains(part) || "TMSHR".contains(part)) {
            if (!word) {
                return 1;
            }
        }
        switch (part) {
            case "t": case "m": case "c":
                if (sorts.containsKey(token)) {
                    return 3;
                }
                sorts.put(token, part.charAt(0));
                lastThing = part.equals("t") ? token : lastThing;
                return 0;
            case "T": case "S": case "R":
                if (!sorts.getOrDefault(token, '-').equals('t')) {
                    return 2;
                }
                if (part.equals("S") && token.equals(lastThing) || part.equals("R") && once.contains("trial " + token)) {
                    return 3;
                }
                if (part.equals("R")) {
                    once.add("trial " + token);
                }
                lastThing = token;
                return 0;
            case "M": case "H":
                if (!sorts.getOrDefault(token, '-').equals('m')) {
                    return 2;
                }
                if (part.equals("H") && once.contains("hears " + token)) {
                    return 3;
                }
                once.add("hears " + token);
                return 0;
            case "w": case "a": case "l": case "k":
                return token.matches("[0-9]+") ? faultOfWhole(Integer.parseInt(token), part) : 1;
            default:
                if (!Arrays.asList(part.split("\\|")).contains(token)) {
                    return 1;
                }
                if (part.startsWith("pair")) {
                    if (once.contains("law " + token)) {
                        return 3;
                    }
                    once.add("law " + token);
                }
                return 0;
        }
    }

    private static int faultOfWhole(int n, String part) {
        switch (part) {
            case "w":
                if (n < 2 || n > 4) {
                    return 4;
                }
                waysSoFar *= n;
                answersOf.put(lastThing, n);
                return waysSoFar > 4096 ? 7 : 0;
            case "a":
                return n < answersOf.get(lastThing) ? 0 : 4;
            case "l":
                return n <= 8 ? 0 : 4;
            default:
                return n >= 1 && n <= 99 ? 0 : 4;
        }
    }

    /** The fault and its place; 0 and -1 without one. */
    private static int[] secondReading(String text) {
        answersOf = new HashMap<>();
        sorts = new HashMap<>();
        once = new ArrayList<>();
        lastThing = "";
        waysSoFar = 1;
        Map<String, Integer> lines = new HashMap<>();
        List<String> parts = new ArrayList<>(List.of("LINE"));
        String last = "";
        for (Object[] t : tokens(text)) {
            int place = (Integer) t[0];
            String token = (String) t[1];
            if (token == null) {
                return new int[] {1, place};
            }
            if (parts.isEmpty()) {
                if (token.equals("")) {
                    return answersOf.isEmpty() ? new int[] {6, place} : new int[] {0, -1};
                }
                if (token.equals(",") && last.equals("H")) {
                    parts.add("H");
                    continue;
                }
                if (!token.equals(";")) {
                    return new int[] {1, place};
                }
                parts.add("LINE");
                continue;
            }
            last = parts.remove(0);
            if (last.equals("LINE")) {
                if (!PATTERNS.containsKey(token)) {
                    return new int[] {1, place};
                }
                lines.merge(token, 1, Integer::sum);
                if (lines.get(token) > ROOM.get(token)) {
                    return new int[] {5, place};
                }
                once.removeIf(s -> s.startsWith("hears "));
                parts.addAll(Arrays.asList(PATTERNS.get(token)));
                continue;
            }
            int fault = faultOf(token, last);
            if (fault != 0) {
                return new int[] {fault, place};
            }
            if (token.equals("wrong") && last.startsWith("pair")) {
                parts.add("l");
            }
        }
        return new int[] {1, text.length()};
    }

    // ---- texts

    private static final String[] LINES = {"thing N answers W", "follows N A,N A", "master N K", "law L", "says N N A",
        "child N hears N,N", "child N hears N", "trial N cost W"};
    private static final String[] SOUP = {"thing", "follows", "master", "law", "says", "child", "trial", "answers",
        "hears", "cost", "plain", "pair", "wrong", ";", ",", "7", "0", "100", "1000", "a", "abcdefghi", "\u00e4", "A", "\n"};

    private static String name() {
        String[] names = {"a", "b", "c", "d", "e", "f", "g", "answers", "plain", "wrong"};
        return names[random(names.length)];
    }

    private static String line(int kind) {
        StringBuilder line = new StringBuilder();
        for (char c : LINES[kind].toCharArray()) {
            if (c == 'N') {
                line.append(name());
            } else if (c == 'W') {
                line.append(random(12) == 0 ? random(130) : 2 + random(3));
            } else if (c == 'A') {
                line.append(random(12) == 0 ? random(6) : random(2));
            } else if (c == 'K') {
                line.append(new String[] {"plain", "ever", "blind", "change"}[random(4)]);
            } else if (c == 'L') {
                line.append(new String[] {"pair", "runs", "wrong 1", "wrong 9"}[random(4)]);
            } else {
                line.append(c);
            }
        }
        return line.toString();
    }

    /** A text that is mostly sound: a LINE that would be a fault is mostly left out. */
    private static String text() {
        StringBuilder text = new StringBuilder();
        int lines = 1 + random(40);
        for (int i = 0; i < lines; i++) {
            String more = (text.length() == 0 ? "" : ";") + line(random(LINES.length));
            int fault = secondReading(text + more)[0];
            if (fault == 0 || fault == 6 || random(120) == 0) {
                text.append(more);
            }
        }
        String whole = text.toString();
        if (random(3) == 0 && !whole.isEmpty()) {
            int at = random(whole.length());
            String change = SOUP[random(SOUP.length)];
            int cut = random(2) == 0 ? 0 : Math.min(whole.length() - at, random(4));
            whole = whole.substring(0, at) + (random(2) == 0 ? " " : "") + change + whole.substring(at + cut);
        }
        return whole.length() > 900 ? whole.substring(0, 900) : whole;
    }

    private static int read(TwoMasters x, String text) {
        byte[] bytes = Arrays.copyOf(text.getBytes(StandardCharsets.ISO_8859_1), (text.length() + 19) / 20 * 20);
        x.school(x.size(11));
        for (int i = 0; i < bytes.length; i += 20) {
            int[] n = new int[5];
            for (int k = 0; k < 20; k++) {
                n[k / 4] = n[k / 4] << 8 | bytes[i + k] & 255;
            }
            x.feed(n[0], n[1], n[2], n[3], n[4]);
        }
        return x.school(text.length());
    }

    private static void checkText(TwoMasters x, String text) {
        int[] due = secondReading(text);
        int got = read(x, text);
        if (x.fault() != due[0] || x.where() != due[1] || (got < 0) != (due[0] != 0)) {
            wrong++;
            System.out.println("answered " + got + ", fault " + x.fault() + " at " + x.where() + ", due is " + due[0]
                + " at " + due[1] + ": " + text);
        }
    }

    // ---- calls

    private static int any() {
        int[] odd = {Integer.MIN_VALUE, Integer.MAX_VALUE, -1, -2, 8, 16, 31, 32, 33, 64, 900, 4095, 4096, 65536, 1000000};
        return random(3) == 0 ? odd[random(odd.length)] : random(9);
    }

    private static int callFirst(TwoMasters x, int which) {
        switch (which) {
            case 0: return x.fault() + x.where() + x.trouble() + x.size(any());
            case 1: return x.ways() + x.worlds() + x.culprit();
            case 2: return x.world(any());
            case 3: return x.lawful(any());
            case 4: return x.sure(any());
            case 5: return x.may(any());
            case 6: return x.likely(any(), any(), random(2) == 0);
            case 7: return x.settled();
            case 8: return x.right(any());
            case 9: return x.wrongs(any(), random(2) == 0);
            case 10: return x.proof(any());
            case 11: return x.proofBy(any());
            case 12: return x.worst();
            case 13: return x.first();
            case 14: return x.mean(random(2) == 0);
            case 15: return x.meanFirst();
            case 16: return x.left(any(), any());
            case 17: return x.listen();
            case 18: return x.believes(any(), any());
            default: return x.knows(any());
        }
    }

    private static int callSecond(TwoMasters x, int which) {
        switch (which) {
            case 0: return x.share(any());
            case 1: return x.passes(any(), any(), random(2) == 0);
            case 2: return x.agree(any(), any(), random(2) == 0);
            case 3: return x.home(any());
            case 4: return x.bestHome();
            case 5: return x.byLaws(any());
            case 6: return x.cheapest();
            case 7: return x.years(any(), any(), any());
            case 8: return x.still(any(), any(), any());
            case 9: return x.seed(any()) ? 1 : 0;
            case 10: return x.draw();
            case 11: return x.tries(any());
            case 12: return x.fact(any());
            case 13: return x.spent();
            case 14: return x.mark();
            case 15: return x.back(any()) ? 1 : 0;
            case 16: return x.saying(any(), any());
            case 17: return x.feed(any(), any(), any(), any(), any());
            case 18: return x.school(any());
            default:
                try {
                    return x.led(any());
                } catch (NoSuchElementException e) {
                    return 0;
                }
        }
    }

    private static void storm(TwoMasters x, String text, int calls) {
        try {
            for (int i = 0; i < calls; i++) {
                if (random(2) == 0) {
                    callFirst(x, random(20));
                } else {
                    callSecond(x, random(20));
                }
            }
        } catch (RuntimeException e) {
            wrong++;
            System.out.println(e + " by " + e.getStackTrace()[0] + ": " + text);
        }
    }

    public static void main(String[] args) {
        int objects = args.length > 0 ? Integer.parseInt(args[0]) : 1500;
        for (int run = 0; run < objects && wrong < 20; run++) {
            TwoMasters x = new TwoMasters();
            storm(x, "", random(20));
            for (int k = 0; k < 4; k++) {
                String text = text();
                checkText(x, text);
                storm(x, text, 50);
            }
        }
        System.out.println(wrong == 0 ? "all answers are as due" : wrong + " answers are not as due");
        if (wrong != 0) {
            System.exit(1);
        }
    }
}
