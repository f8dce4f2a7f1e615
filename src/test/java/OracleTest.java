import java.util.ArrayList;
import java.util.Arrays;
import java.util.List;
import java.util.NoSuchElementException;
import java.util.TreeSet;

/**
 * Random schools and random calls, each answer compared with a second, slow and literal reading of
 * the document that looks at one WAY after the other (no bit rows, no states of plans, no caches).
 */
public final class OracleTest {
    private static int wrong = 0;
    private static long state = 20261118L;

    private static int random(int below) {
        state = state * 6364136223846793005L + 1442695040888963407L;
        return (int) ((state >>> 33) % below);
    }

    /** What a school tells, as the generator knows it; no text is read here. */
    private static final class Told {
        int[] answers = new int[0];
        List<int[]> follows = new ArrayList<>();
        List<String> kinds = new ArrayList<>();
        int laws;
        int limit = -2;
        List<int[]> sayings = new ArrayList<>();
        List<List<Integer>> children = new ArrayList<>();
        int[] cost = new int[8];
        List<String> lines = new ArrayList<>();

        int ways() {
            int n = 1;
            for (int a : answers) {
                n *= a;
            }
            return n;
        }

        int[] way(int number) {
            int[] way = new int[answers.length];
            for (int t = answers.length - 1; t >= 0; t--) {
                way[t] = number % answers[t];
                number /= answers[t];
            }
            return way;
        }
    }

    private static final String[] KINDS = {"plain", "ever", "blind", "change"};
    private static final String[] NAMES = {"a", "answers", "pair", "x", "plain", "qqqqqqqq", "cost", "wrong",
        "m", "ma", "hears", "runs", "ever", "zed", "c", "ca", "cb", "cc", "cd"};

    private static void give(StringBuilder text, String token) {
        char last = text.length() == 0 ? ' ' : text.charAt(text.length() - 1);
        boolean apart = Character.isLetter(last) == Character.isLetter(token.charAt(0))
            && Character.isLetterOrDigit(last) && Character.isLetterOrDigit(token.charAt(0));
        int blanks = random(6) == 0 ? random(3) : 0;
        for (int i = 0; i < Math.max(blanks, apart ? 1 : 0); i++) {
            text.append(' ');
        }
        text.append(token);
    }

    private static String join(Told told) {
        StringBuilder text = new StringBuilder();
        for (int i = 0; i < told.lines.size(); i++) {
            if (i > 0) {
                give(text, ";");
            }
            for (String token : told.lines.get(i).split(" ")) {
                give(text, token);
            }
        }
        return text.toString();
    }

    private static Told generate(int mostWays) {
        Told told = new Told();
        int things = 1 + random(8);
        for (int t = 0; t < things; t++) {
            int a = 2 + random(3);
            if (told.ways() * a <= mostWays) {
                told.answers = Arrays.copyOf(told.answers, told.answers.length + 1);
                told.answers[told.answers.length - 1] = a;
                told.lines.add("thing " + NAMES[t] + " answers " + a);
            } else {
                break;
            }
        }
        if (told.answers.length == 0) {
            told.answers = new int[] {2};
            told.lines.add("thing " + NAMES[0] + " answers 2");
        }
        things = told.answers.length;
        int masters = random(7);
        for (int m = 0; m < masters; m++) {
            String kind = KINDS[random(3) == 0 ? 1 + random(3) : 0];
            told.kinds.add(kind);
            told.lines.add("master " + NAMES[8 + m] + " " + kind);
        }
        generateRest(told, things, masters);
        return told;
    }

    private static void generateRest(Told told, int things, int masters) {
        int rest = random(30);
        for (int i = 0; i < rest; i++) {
            int what = random(12);
            int t = random(things);
            if (what < 1 && things > 1 && told.follows.size() < 6) {
                int u = (t + 1 + random(things - 1)) % things;
                int[] f = {t, random(told.answers[t]), u, random(told.answers[u])};
                told.follows.add(f);
                told.lines.add("follows " + NAMES[t] + " " + f[1] + " , " + NAMES[u] + " " + f[3]);
            } else if (what < 6 && masters > 0 && told.sayings.size() < 16) {
                int[] s = {random(masters), t, random(told.answers[t])};
                told.sayings.add(s);
                told.lines.add("says " + NAMES[8 + s[0]] + " " + NAMES[t] + " " + (random(4) == 0 ? "0" : "") + s[2]);
            } else if (what < 9 && told.cost[t] == 0) {
                told.cost[t] = 1 + random(random(2) == 0 ? 4 : 99);
                told.lines.add("trial " + NAMES[t] + " cost " + told.cost[t]);
            } else if (what == 9 && masters > 0 && told.children.size() < 5) {
                generateChild(told, masters);
            } else if (what == 10) {
                int law = 1 << random(3);
                if ((told.laws & law) == 0) {
                    told.laws |= law;
                    told.limit = law == 2 ? random(4) : told.limit;
                    told.lines.add("law " + (law == 1 ? "pair" : law == 2 ? "wrong " + told.limit : "runs"));
                }
            }
        }
    }

    private static void generateChild(Told told, int masters) {
        List<Integer> heard = new ArrayList<>();
        StringBuilder line = new StringBuilder("child " + NAMES[14 + told.children.size()] + " hears");
        for (int m = 0; m < masters; m++) {
            int which = (m + told.children.size()) % masters;
            if (heard.isEmpty() || random(2) == 0) {
                line.append(heard.isEmpty() ? " " : " , ").append(NAMES[8 + which]);
                heard.add(which);
            }
        }
        told.children.add(heard);
        told.lines.add(line.toString());
    }

    // ---- the literal reading

    private static boolean isRight(int[] way, int[] saying) {
        return way[saying[1]] == saying[2];
    }

    private static boolean isLawful(Told told, List<int[]> sayings, int laws, int[] way) {
        for (int[] f : told.follows) {
            if (way[f[0]] == f[1] && way[f[2]] != f[3]) {
                return false;
            }
        }
        for (int m = 0; m < told.kinds.size(); m++) {
            List<int[]> his = new ArrayList<>();
            TreeSet<Integer> wrongIn = new TreeSet<>();
            for (int[] s : sayings) {
                if (s[0] == m) {
                    his.add(s);
                    if (!isRight(way, s)) {
                        wrongIn.add(s[1]);
                    }
                }
            }
            String kind = told.kinds.get(m);
            if (kind.equals("plain") && (laws & 2) != 0 && wrongIn.size() > told.limit) {
                return false;
            }
            for (int i = 0; i < his.size(); i++) {
                boolean right = isRight(way, his.get(i));
                if (kind.equals("ever") && right) {
                    return false;
                }
                if (i > 0) {
                    boolean last = isRight(way, his.get(i - 1));
                    if (kind.equals("change") && last == right) {
                        return false;
                    }
                    if (kind.equals("plain") && (laws & 4) != 0 && !last && !right) {
                        return false;
                    }
                }
            }
        }
        return (laws & 1) == 0 || keepsPair(told, sayings, way);
    }

    private static boolean keepsPair(Told told, List<int[]> sayings, int[] way) {
        for (int t = 0; t < told.answers.length; t++) {
            TreeSet<Integer> who = new TreeSet<>();
            for (int[] s : sayings) {
                if (s[1] == t && !told.kinds.get(s[0]).equals("blind")) {
                    who.add(s[0]);
                }
            }
            if (who.size() == 2) {
                boolean one = true;
                boolean other = true;
                for (int[] s : sayings) {
                    if (s[1] == t && who.contains(s[0])) {
                        boolean first = s[0] == who.first();
                        one = one && isRight(way, s) == first;
                        other = other && isRight(way, s) != first;
                    }
                }
                if (!one && !other) {
                    return false;
                }
            }
        }
        return true;
    }

    private static List<int[]> lawfulWays(Told told, List<int[]> sayings, int laws) {
        List<int[]> ways = new ArrayList<>();
        for (int n = 0; n < told.ways(); n++) {
            int[] way = told.way(n);
            if (isLawful(told, sayings, laws, way)) {
                ways.add(way);
            }
        }
        return ways;
    }

    private static int[] counts(Told told, List<int[]> ways, int t) {
        int[] counts = new int[told.answers[t]];
        for (int[] way : ways) {
            counts[way[t]]++;
        }
        return counts;
    }

    private static int mayBits(Told told, List<int[]> ways, int t) {
        int bits = 0;
        int[] counts = counts(told, ways, t);
        for (int a = 0; a < counts.length; a++) {
            bits |= counts[a] > 0 ? 1 << a : 0;
        }
        return bits;
    }

    private static int sureBits(Told told, List<int[]> ways) {
        int bits = 0;
        for (int t = 0; t < told.answers.length; t++) {
            int may = mayBits(told, ways, t);
            bits |= may != 0 && (may & may - 1) == 0 ? 1 << t : 0;
        }
        return bits;
    }

    private static int numberOf(Told told, int[] way) {
        int n = 0;
        for (int t = 0; t < way.length; t++) {
            n = n * told.answers[t] + way[t];
        }
        return n;
    }

    private static int part(int upper, int lower, boolean wantsLower) {
        for (int d = Math.max(upper, lower); d > 1; d--) {
            if (upper % d == 0 && lower % d == 0) {
                upper /= d;
                lower /= d;
            }
        }
        return wantsLower ? lower : upper;
    }

    /** The least cost at worst (or by all together) and by which THING first; null if trials can't. */
    private static long[] plan(Told told, List<int[]> worlds, int tried, boolean together) {
        if (worlds.size() == 1) {
            return new long[] {0, -2};
        }
        long[] best = null;
        for (int t = 0; t < told.answers.length; t++) {
            if (told.cost[t] > 0 && (tried >> t & 1) == 0) {
                long sum = (long) told.cost[t] * worlds.size();
                long top = 0;
                boolean can = true;
                for (int a = 0; a < told.answers[t] && can; a++) {
                    List<int[]> then = with(worlds, t, a);
                    if (!then.isEmpty()) {
                        long[] next = plan(told, then, tried | 1 << t, together);
                        can = next != null;
                        if (can) {
                            sum += next[0];
                            top = Math.max(top, next[0]);
                        }
                    }
                }
                long cost = together ? sum : told.cost[t] + top;
                if (can && (best == null || cost < best[0])) {
                    best = new long[] {cost, t};
                }
            }
        }
        return best;
    }

    private static List<int[]> with(List<int[]> ways, int t, int a) {
        List<int[]> kept = new ArrayList<>();
        for (int[] way : ways) {
            if (way[t] == a) {
                kept.add(way);
            }
        }
        return kept;
    }

    // ---- the object that is tested, with what the literal reading knows of it

    private static String text;
    private static Told told;
    private static TwoMasters x;
    private static int seed;
    private static int[] hidden;
    private static int facts;
    private static int costs;
    private static List<Object[]> marks;
    private static int due;
    private static int why;

    private static void refused(int reason) {
        due = -1;
        why = reason;
    }

    private static void answered(int answer) {
        due = answer;
        why = 0;
    }

    private static List<int[]> worlds() {
        return keepFacts(lawfulWays(told, told.sayings, told.laws));
    }

    private static List<int[]> keepFacts(List<int[]> ways) {
        for (int t = 0; t < told.answers.length; t++) {
            if ((facts >> t & 1) != 0) {
                ways = with(ways, t, hidden[t]);
            }
        }
        return ways;
    }

    private static void check(String call, int got) {
        if (got != due || x.trouble() != why) {
            wrong++;
            System.out.println(call + " answered " + got + " (trouble " + x.trouble() + "), due is " + due
                + " (trouble " + why + "), of: " + text);
        }
    }

    private static int somewhere(int count) {
        return random(12) == 0 ? random(3) - 1 + (random(2) == 0 ? count : 0) : random(Math.max(count, 1));
    }

    private static boolean out(int i, int count) {
        return i < 0 || i >= count;
    }

    private static void callWorlds(int which, List<int[]> now) {
        int things = told.answers.length;
        int t = somewhere(things);
        boolean flag = random(2) == 0;
        if (which == 0) {
            answered(told.ways());
            check("ways()", x.ways());
            answered(now.size());
            check("worlds()", x.worlds());
        } else if (which == 1) {
            int i = somewhere(now.size());
            if (out(i, now.size())) {
                refused(1);
            } else {
                answered(numberOf(told, now.get(i)));
            }
            check("world(" + i + ")", x.world(i));
        } else if (which == 2) {
            int n = somewhere(told.ways());
            if (out(n, told.ways())) {
                refused(1);
            } else {
                answered(isLawful(told, told.sayings, told.laws, told.way(n)) ? 1 : 0);
            }
            check("lawful(" + n + ")", x.lawful(n));
        } else if (which == 3) {
            answered(-2);
            for (int i = told.sayings.size(); i >= 1; i--) {
                if (lawfulWays(told, told.sayings.subList(0, i), told.laws).isEmpty()) {
                    answered(i - 1);
                }
            }
            check("culprit()", x.culprit());
        } else if (which == 4) {
            if (out(t, things)) {
                refused(1);
                check("may(" + t + ")", x.may(t));
            } else {
                answered(mayBits(told, now, t));
                check("may(" + t + ")", x.may(t));
                refused(6);
                if (!now.isEmpty()) {
                    answered((sureBits(told, now) >> t & 1) != 0 ? now.get(0)[t] : -2);
                }
            }
            check("sure(" + t + ")", x.sure(t));
        } else if (which == 5) {
            int a = somewhere(4);
            if (out(t, things) || out(a, told.answers[t])) {
                refused(1);
            } else if (now.isEmpty()) {
                refused(6);
            } else {
                answered(part(counts(told, now, t)[a], now.size(), flag));
            }
            check("likely(" + t + ", " + a + ", " + flag + ")", x.likely(t, a, flag));
        } else {
            refused(6);
            if (!now.isEmpty()) {
                answered(sureBits(told, now));
            }
            check("settled()", x.settled());
            callLed(now);
        }
    }

    private static void callLed(List<int[]> now) {
        List<Integer> unsure = new ArrayList<>();
        for (int t = 0; t < told.answers.length; t++) {
            if ((sureBits(told, now) >> t & 1) == 0) {
                unsure.add(t);
            }
        }
        int i = somewhere(unsure.size());
        int got;
        try {
            got = x.led(i);
        } catch (NoSuchElementException e) {
            got = -7;
        }
        due = out(i, unsure.size()) ? -7 : unsure.get(i);
        check("led(" + i + ")", got);
    }

    private static void callSayings(int which, List<int[]> now) {
        int things = told.answers.length;
        boolean flag = random(2) == 0;
        if (which == 0) {
            int i = somewhere(told.sayings.size());
            if (out(i, told.sayings.size())) {
                refused(1);
            } else if (now.isEmpty()) {
                refused(6);
            } else {
                int n = 0;
                for (int[] way : now) {
                    n += isRight(way, told.sayings.get(i)) ? 1 : 0;
                }
                answered(n == now.size() ? 1 : n == 0 ? 0 : -2);
            }
            check("right(" + i + ")", x.right(i));
        } else if (which == 1) {
            int m = somewhere(told.kinds.size());
            if (out(m, told.kinds.size())) {
                refused(1);
            } else if (now.isEmpty()) {
                refused(6);
            } else {
                TreeSet<Integer> many = new TreeSet<>();
                for (int[] way : now) {
                    TreeSet<Integer> in = new TreeSet<>();
                    for (int[] s : told.sayings) {
                        if (s[0] == m && !isRight(way, s)) {
                            in.add(s[1]);
                        }
                    }
                    many.add(in.size());
                }
                answered(flag ? many.first() : many.last());
            }
            check("wrongs(" + m + ", " + flag + ")", x.wrongs(m, flag));
        } else if (which == 2) {
            int i = somewhere(told.sayings.size());
            int what = somewhere(3);
            if (out(i, told.sayings.size()) || out(what, 3)) {
                refused(1);
            } else {
                answered(told.sayings.get(i)[what]);
            }
            check("saying(" + i + ", " + what + ")", x.saying(i, what));
        } else {
            callAgree(things, flag);
        }
    }

    private static void callAgree(int things, boolean flag) {
        int m = somewhere(told.kinds.size());
        int o = somewhere(told.kinds.size());
        if (out(m, told.kinds.size()) || out(o, told.kinds.size()) || m == o) {
            refused(1);
        } else {
            int bits = 0;
            for (int t = 0; t < things; t++) {
                int[] firsts = {-1, -1};
                for (int i = told.sayings.size() - 1; i >= 0; i--) {
                    int[] s = told.sayings.get(i);
                    if (s[1] == t && s[0] == m) {
                        firsts[0] = s[2];
                    }
                    if (s[1] == t && s[0] == o) {
                        firsts[1] = s[2];
                    }
                }
                if (firsts[0] >= 0 && firsts[1] >= 0 && flag == (firsts[0] == firsts[1])) {
                    bits |= 1 << t;
                }
            }
            answered(bits);
        }
        check("agree(" + m + ", " + o + ", " + flag + ")", x.agree(m, o, flag));
    }

    private static void callProof() {
        int things = told.answers.length;
        int t = somewhere(things);
        int by = -2;
        if (!out(t, things)) {
            for (int many = 0; many <= 3 && by < 0; many++) {
                for (int bits = 0; bits < 1 << told.sayings.size() && by < 0; bits++) {
                    if (Integer.bitCount(bits) == many) {
                        List<int[]> some = new ArrayList<>();
                        for (int i = 0; i < told.sayings.size(); i++) {
                            if ((bits >> i & 1) != 0) {
                                some.add(told.sayings.get(i));
                            }
                        }
                        int may = mayBits(told, lawfulWays(told, some, told.laws), t);
                        by = Integer.bitCount(may) == 1 ? bits : by;
                    }
                }
            }
        }
        answered(by < 0 ? -2 : Integer.bitCount(by));
        if (out(t, things)) {
            refused(1);
        }
        check("proof(" + t + ")", x.proof(t));
        due = out(t, things) ? -1 : by;
        check("proofBy(" + t + ")", x.proofBy(t));
    }

    private static void callPlan(List<int[]> now) {
        boolean flag = random(2) == 0;
        long[] worst = now.isEmpty() ? null : plan(told, now, facts, false);
        long[] mean = now.isEmpty() ? null : plan(told, now, facts, true);
        int no = now.isEmpty() ? 6 : worst == null ? 5 : 0;
        answered(worst == null ? -2 : (int) worst[0]);
        if (no == 6) {
            refused(6);
        }
        check("worst()", x.worst());
        answered(worst == null ? 0 : (int) worst[1]);
        if (no != 0) {
            refused(no);
        }
        check("first()", x.first());
        answered(mean == null ? 0 : part((int) mean[0], now.size(), flag));
        if (no != 0) {
            refused(no);
        }
        check("mean(" + flag + ")", x.mean(flag));
        answered(mean == null ? 0 : (int) mean[1]);
        if (no != 0) {
            refused(no);
        }
        check("meanFirst()", x.meanFirst());
    }

    private static int leftBy(int m, int t) {
        int most = 0;
        if (told.kinds.get(m).equals("blind")) {
            return -1;
        }
        for (int[] s : told.sayings) {
            if (s[0] == m && s[1] == t) {
                return -1;
            }
        }
        for (int a = 0; a < told.answers[t]; a++) {
            List<int[]> more = new ArrayList<>(told.sayings);
            more.add(new int[] {m, t, a});
            most = Math.max(most, keepFacts(lawfulWays(told, more, told.laws)).size());
        }
        return most;
    }

    private static void callLessons() {
        int things = told.answers.length;
        int m = somewhere(told.kinds.size());
        int t = somewhere(things);
        if (out(m, told.kinds.size()) || out(t, things)) {
            refused(1);
        } else if (leftBy(m, t) < 0) {
            refused(5);
        } else {
            answered(leftBy(m, t));
        }
        check("left(" + m + ", " + t + ")", x.left(m, t));
        int best = -1;
        int least = 0;
        for (m = 0; m < told.kinds.size(); m++) {
            for (t = 0; t < things; t++) {
                int left = leftBy(m, t);
                if (left >= 0 && (best < 0 || left < least)) {
                    best = 8 * m + t;
                    least = left;
                }
            }
        }
        answered(best);
        if (best < 0) {
            refused(6);
        }
        check("listen()", x.listen());
    }

    private static List<int[]> taught(int child) {
        List<int[]> heard = new ArrayList<>();
        for (int[] s : told.sayings) {
            if (told.children.get(child).contains(s[0])) {
                heard.add(s);
            }
        }
        return lawfulWays(told, heard, told.laws);
    }

    private static int belief(int child, int t) {
        int[] counts = counts(told, taught(child), t);
        int best = -2;
        for (int a = counts.length - 1; a >= 0; a--) {
            if (counts[a] > 0 && (best < 0 || counts[a] >= counts[best])) {
                best = a;
            }
        }
        return best;
    }

    private static void callChildren(List<int[]> now) {
        int things = told.answers.length;
        int c = somewhere(told.children.size());
        int t = somewhere(things);
        boolean noChild = out(c, told.children.size());
        boolean flag = random(2) == 0;
        if (noChild || out(t, things)) {
            refused(1);
        } else {
            answered(belief(c, t));
        }
        check("believes(" + c + ", " + t + ")", x.believes(c, t));
        if (noChild) {
            refused(1);
        } else {
            answered(sureBits(told, taught(c)));
        }
        check("knows(" + c + ")", x.knows(c));
        int some = somewhere(1 << told.children.size());
        if (out(some, 1 << told.children.size())) {
            refused(2);
        } else {
            int bits = 0;
            for (int k = 0; k < told.children.size(); k++) {
                bits |= (some >> k & 1) != 0 ? sureBits(told, taught(k)) : 0;
            }
            answered(bits);
        }
        check("share(" + some + ")", x.share(some));
        int need = somewhere(9);
        if (noChild) {
            refused(1);
        } else if (out(need, 9)) {
            refused(2);
        } else if (now.isEmpty()) {
            refused(6);
        } else {
            int passed = 0;
            int[] beliefs = new int[things];
            for (int k = 0; k < things; k++) {
                beliefs[k] = belief(c, k);
            }
            for (int[] way : now) {
                int rightly = 0;
                for (int k = 0; k < things; k++) {
                    rightly += way[k] == beliefs[k] ? 1 : 0;
                }
                passed += rightly >= need ? 1 : 0;
            }
            answered(part(passed, now.size(), flag));
        }
        check("passes(" + c + ", " + need + ", " + flag + ")", x.passes(c, need, flag));
    }

    private static int homeOf(List<int[]> now, int t) {
        int least = 99;
        for (int a = 0; a < told.answers[t]; a++) {
            List<int[]> then = with(now, t, a);
            if (!then.isEmpty()) {
                least = Math.min(least, Integer.bitCount(sureBits(told, then)));
            }
        }
        return least;
    }

    private static void callHome(List<int[]> now) {
        int things = told.answers.length;
        int t = somewhere(things);
        if (out(t, things)) {
            refused(1);
        } else if (now.isEmpty()) {
            refused(6);
        } else {
            answered(homeOf(now, t));
        }
        check("home(" + t + ")", x.home(t));
        refused(6);
        if (!now.isEmpty()) {
            int best = 0;
            for (int k = 1; k < things; k++) {
                best = homeOf(now, k) > homeOf(now, best) ? k : best;
            }
            answered(best);
        }
        check("bestHome()", x.bestHome());
    }

    private static int settledBy(int laws) {
        List<int[]> ways = lawfulWays(told, told.sayings, laws & told.laws);
        return ways.isEmpty() ? -1 : Integer.bitCount(sureBits(told, ways));
    }

    private static void callLaws() {
        int laws = somewhere(8);
        if (out(laws, 8)) {
            refused(2);
        } else if (settledBy(laws) < 0) {
            refused(6);
        } else {
            answered(settledBy(laws));
        }
        check("byLaws(" + laws + ")", x.byLaws(laws));
        refused(6);
        if (settledBy(7) >= 0) {
            int best = -1;
            for (int set = 0; set < 8; set++) {
                boolean told7 = (set & told.laws) == set;
                if (told7 && settledBy(set) == settledBy(7)
                    && (best < 0 || Integer.bitCount(set) < Integer.bitCount(best))) {
                    best = set;
                }
            }
            answered(best);
        }
        check("cheapest()", x.cheapest());
    }

    private static void callTerm(int which) {
        int things = told.answers.length;
        int t = somewhere(things);
        if (which == 0) {
            int v = random(9) == 0 ? (random(2) == 0 ? -1 : 65537) : random(4) == 0 ? 65536 : random(65537);
            boolean bad = v < 0 || v > 65536;
            seed = bad ? seed : v;
            answered(1);
            if (bad) {
                refused(2);
                due = 0;
            }
            check("seed(" + v + ")", x.seed(v) ? 1 : 0);
        } else if (which == 1) {
            List<int[]> all = lawfulWays(told, told.sayings, told.laws);
            refused(6);
            if (!all.isEmpty()) {
                seed = (75 * seed + 74) % 65537;
                hidden = all.get(seed % all.size());
                facts = 0;
                costs = 0;
                answered(all.size());
            }
            check("draw()", x.draw());
        } else if (which == 2) {
            if (out(t, things)) {
                refused(1);
            } else if (told.cost[t] == 0 || (facts >> t & 1) != 0) {
                refused(5);
            } else if (hidden == null) {
                refused(6);
            } else {
                facts |= 1 << t;
                costs += told.cost[t];
                answered(hidden[t]);
            }
            check("tries(" + t + ")", x.tries(t));
        } else if (which == 3) {
            if (out(t, things)) {
                refused(1);
            } else {
                answered((facts >> t & 1) != 0 ? hidden[t] : -2);
            }
            check("fact(" + t + ")", x.fact(t));
            answered(costs);
            check("spent()", x.spent());
        } else {
            callMarks();
        }
    }

    private static void callMarks() {
        if (random(2) == 0) {
            answered(marks.size());
            if (marks.size() == 3) {
                refused(3);
            } else {
                marks.add(new Object[] {seed, hidden, facts, costs});
            }
            check("mark()", x.mark());
        } else {
            int k = somewhere(marks.size());
            answered(1);
            if (out(k, marks.size())) {
                refused(1);
                due = 0;
            } else {
                seed = (Integer) marks.get(k)[0];
                hidden = (int[]) marks.get(k)[1];
                facts = (Integer) marks.get(k)[2];
                costs = (Integer) marks.get(k)[3];
            }
            check("back(" + k + ")", x.back(k) ? 1 : 0);
        }
        int trials = 0;
        for (int cost : told.cost) {
            trials += cost > 0 ? 1 : 0;
        }
        int[] sizes = {told.answers.length, told.kinds.size(), told.sayings.size(), told.children.size(), trials,
            told.follows.size(), told.laws, told.limit, seed, marks.size(), hidden == null ? 0 : 1, 0};
        for (int what = 0; what < sizes.length; what++) {
            due = sizes[what];
            check("size(" + what + ")", x.size(what));
        }
    }

    private static void feedAll() {
        byte[] bytes = Arrays.copyOf(text.getBytes(java.nio.charset.StandardCharsets.ISO_8859_1),
            (text.length() + 19) / 20 * 20);
        for (int i = 0; i < bytes.length; i += 20) {
            java.nio.ByteBuffer b = java.nio.ByteBuffer.wrap(bytes, i, 20);
            x.feed(b.getInt(), b.getInt(), b.getInt(), b.getInt(), b.getInt());
        }
    }

    private static void enter(int mostWays) {
        do {
            told = generate(mostWays);
            text = join(told);
        } while (text.length() > 900);
        feedAll();
        seed = 0;
        hidden = null;
        facts = 0;
        costs = 0;
        marks = new ArrayList<>();
        answered(told.answers.length);
        check("school(" + text.length() + ")", x.school(text.length()));
    }

    private static void callAny(boolean heavy) {
        List<int[]> now = worlds();
        int which = random(24);
        if (which < 7) {
            callWorlds(which, now);
        } else if (which < 11) {
            callSayings(which - 7, now);
        } else if (which == 11 && heavy) {
            callProof();
        } else if (which == 12 && heavy) {
            callPlan(now);
        } else if (which == 13) {
            callLessons();
        } else if (which == 14) {
            callChildren(now);
        } else if (which == 15) {
            callHome(now);
        } else if (which == 16) {
            callLaws();
        } else if (which > 16) {
            callTerm((which - 17) % 5);
        }
    }

    public static void main(String[] args) {
        int objects = args.length > 0 ? Integer.parseInt(args[0]) : 400;
        for (int run = 0; run < objects && wrong < 20; run++) {
            x = new TwoMasters();
            int schools = 1 + random(3);
            for (int s = 0; s < schools; s++) {
                int size = random(40);
                enter(size == 0 ? 4096 : size < 10 ? 150 : 50);
                for (int k = 0; k < 40; k++) {
                    callAny(size != 0);
                }
            }
        }
        System.out.println(wrong == 0 ? "all answers are as due" : wrong + " answers are not as due");
        if (wrong != 0) {
            System.exit(1);
        }
    }
}
