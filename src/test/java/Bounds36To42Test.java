/** Boundary cases of promises 36 to 42: the term. */
public final class Bounds36To42Test extends Desk {
    private static final String EIGHT = lines("thing # answers 2", 8);
    /** Six WORLDS; of c no trial. */
    private static final String TERM = "thing a answers 2;thing b answers 3;thing c answers 2;follows a 0,c 0;"
        + "follows a 1,c 1;trial a cost 99;trial b cost 1";
    /** No WAY is LAWFUL. */
    private static final String CLASH = "thing a answers 2;master m ever;says m a 0;says m a 1;trial a cost 1";
    /** A hidden WAY's number shows by its trials. */
    private static final String FOUR = "thing a answers 2;thing b answers 2;trial a cost 1;trial b cost 1";

    private static int hiddenOfFour() {
        return 2 * x.tries(0) + x.tries(1);
    }

    // ---- promise 36: "SEED: true; false: 1 (no SCHOOL); 2 (0 .. 65,536)."

    static void promise36_noSchool() {
        none();
        refused("seed(0)", x.seed(0), 1);
        refused("seed(65536)", x.seed(65536), 1);
        refused("seed(-1), 1 ahead of 2", x.seed(-1), 1);
        refused("seed(65537), 1 ahead of 2", x.seed(65537), 1);
        due("size(8)", x.size(8), 0);
        enter(TERM);
        due("size(8)", x.size(8), 0);
        good("seed(1)", x.seed(1));
    }

    static void promise36_from0To65536() {
        open(TERM);
        for (int seed : new int[] {0, 1, 65535, 65536}) {
            good("seed(" + seed + ")", x.seed(seed));
            due("size(8)", x.size(8), seed);
        }
        for (int seed : new int[] {-1, 65537, 65538, -65537, 131074, Integer.MIN_VALUE, Integer.MAX_VALUE}) {
            refused("seed(" + seed + ")", x.seed(seed), 2);
            due("size(8), SEED stays", x.size(8), 65536);
        }
    }

    static void promise36_nothingButSeed() {
        open(TERM);
        x.draw();
        x.tries(0);
        x.mark();
        String state = state();
        good("seed(0)", x.seed(0));
        good("seed(74)", x.seed(74));
        due("all else stays", state(), state);
        enter(CLASH);
        good("seed(7), without WORLDS", x.seed(7));
        due("size(8)", x.size(8), 7);
    }

    // ---- promise 37: draw. "NONE: 1 (no SCHOOL); 6 (no WORLDS without FACTS: all stays)."

    static void promise37_noSchool() {
        none();
        refused("draw()", x.draw(), 1);
        due("size(8)", x.size(8), 0);
        due("size(10)", x.size(10), 0);
        enter(TERM);
        good("draw()", x.draw(), 6);
        due("size(10)", x.size(10), 1);
    }

    static void promise37_noWorldsAllStays() {
        open(CLASH);
        x.mark();
        x.seed(5);
        String state = state();
        refused("draw()", x.draw(), 6);
        due("all stays", state(), state);
        due("SEED", x.size(8), 5);
        due("a hidden WAY", x.size(10), 0);
        due("MARKS", x.size(9), 1);
    }

    /** "SEED becomes (75 times SEED and 74) mod 65,537". */
    static void promise37_seedGoesRound() {
        open(FOUR);
        int[][] next = {{0, 74}, {1, 149}, {872, 65474}, {873, 12}, {45438, 0}, {65535, 65461}, {65536, 65536}};
        for (int[] n : next) {
            x.seed(n[0]);
            good("draw()", x.draw(), 4);
            due("SEED behind " + n[0], x.size(8), n[1]);
        }
        x.seed(0);
        x.draw();
        x.draw();
        due("SEED behind two", x.size(8), 75 * 74 + 74);
    }

    /** "that mod how many: by numbers". */
    static void promise37_theFirstAndTheLastWorld() {
        open(FOUR);
        x.seed(45438);
        x.draw();
        due("SEED 0, the first", hiddenOfFour(), 0);
        x.seed(65536);
        x.draw();
        due("SEED 65,536, the first", hiddenOfFour(), 0);
        x.seed(0);
        x.draw();
        due("SEED 74, the third", hiddenOfFour(), 2);
        x.seed(3);
        x.draw();
        due("SEED 299, the last", hiddenOfFour(), 3);
        enter(FOUR + ";follows a 0,b 1");
        x.seed(873);
        x.draw();
        due("SEED 12, the first of 1, 2, 3", hiddenOfFour(), 1);
        x.seed(0);
        x.draw();
        due("SEED 74, the last of 1, 2, 3", hiddenOfFour(), 3);
        enter("thing a answers 2;master e ever;says e a 0;trial a cost 1");
        good("draw(), of one", x.draw(), 1);
        good("tries(0)", x.tries(0), 1);
    }

    static void promise37_ofAll4096() {
        open(lines("thing # answers 4", 6) + ";" + lines("trial # cost 1", 6));
        good("draw()", x.draw(), 4096);
        int[] digits = {0, 0, 1, 0, 2, 2};
        for (int t = 0; t < 6; t++) {
            good("tries(" + t + ") of 74", x.tries(t), digits[t]);
        }
        x.seed(54);
        good("draw(): 75 times 54 and 74 is 4,124, mod 4,096 28", x.draw(), 4096);
        good("tries(4)", x.tries(4), 3);
        good("tries(5)", x.tries(5), 0);
        good("tries(3)", x.tries(3), 1);
        good("tries(2)", x.tries(2), 0);
    }

    /** "FACTS and costs are none: how many WORLDS there are". */
    static void promise37_factsAndCostsAreNone() {
        open(TERM);
        x.draw();
        x.tries(0);
        x.tries(1);
        x.mark();
        good("worlds()", x.worlds(), 1);
        good("draw(), WORLDS without FACTS", x.draw(), 6);
        good("worlds()", x.worlds(), 6);
        good("fact(0)", x.fact(0), -2);
        good("fact(1)", x.fact(1), -2);
        good("spent()", x.spent(), 0);
        due("MARKS stay", x.size(9), 1);
    }

    // ---- promise 38: "A trial: the true ANSWER; it is a FACT. NONE: 1; 5 (no trial of it; it is a FACT); 6 (no hidden WAY)."

    static void promise38_noSchool() {
        none();
        outside("tries(#)", 0, 1, t -> x.tries(t));
    }

    static void promise38_noSuchThing() {
        open(TERM);
        outside("tries(#), 1 ahead of 6", 3, 1, t -> x.tries(t));
        x.draw();
        outside("tries(#)", 3, 1, t -> x.tries(t));
        good("spent()", x.spent(), 0);
        enter(EIGHT + ";" + lines("trial # cost 1", 8));
        x.draw();
        good("tries(7)", x.tries(7), 0);
        outside("tries(#)", 8, 1, t -> x.tries(t));
    }

    static void promise38_noTrialOfIt() {
        open(TERM);
        refused("tries(2), 5 ahead of 6", x.tries(2), 5);
        x.draw();
        refused("tries(2)", x.tries(2), 5);
        x.tries(0);
        good("sure(2), known but no FACT", x.sure(2) < 0 ? 0 : 1, 1);
        refused("tries(2)", x.tries(2), 5);
        good("spent()", x.spent(), 99);
        good("fact(2)", x.fact(2), -2);
    }

    static void promise38_aFactAlready() {
        open(TERM);
        x.draw();
        good("tries(0): 74 mod 6 is 2: 0, 2, 0", x.tries(0), 0);
        refused("tries(0)", x.tries(0), 5);
        refused("tries(0)", x.tries(0), 5);
        good("spent(), once", x.spent(), 99);
        good("tries(1)", x.tries(1), 2);
        refused("tries(1)", x.tries(1), 5);
        good("spent()", x.spent(), 100);
        x.draw();
        good("tries(0), no FACT by a new draw", x.tries(0) < 0 ? 0 : 1, 1);
    }

    static void promise38_noHiddenWay() {
        open(TERM);
        refused("tries(0)", x.tries(0), 6);
        refused("tries(1)", x.tries(1), 6);
        good("fact(0)", x.fact(0), -2);
        good("spent()", x.spent(), 0);
        x.mark();
        x.draw();
        good("tries(0)", x.tries(0), 0);
        x.back(0);
        refused("tries(0), none again", x.tries(0), 6);
        enter(CLASH);
        refused("tries(0), without WORLDS", x.tries(0), 6);
    }

    static void promise38_ofWhatIsSure() {
        open("thing a answers 2;master e ever;says e a 0;trial a cost 7");
        x.draw();
        good("tries(0), though SURE", x.tries(0), 1);
        good("spent()", x.spent(), 7);
        good("fact(0)", x.fact(0), 1);
    }

    // ---- promise 39: "A FACT: its ANSWER; -2 if it is none. NONE: 1."

    static void promise39_noSchool() {
        none();
        outside("fact(#)", 0, 1, t -> x.fact(t));
    }

    static void promise39_noSuchThing() {
        open(TERM);
        outside("fact(#)", 3, 1, t -> x.fact(t));
        x.draw();
        x.tries(0);
        outside("fact(#)", 3, 1, t -> x.fact(t));
        enter(EIGHT);
        good("fact(7)", x.fact(7), -2);
        outside("fact(#)", 8, 1, t -> x.fact(t));
    }

    static void promise39_noneAndAll() {
        open(TERM);
        good("fact(0), no hidden WAY", x.fact(0), -2);
        x.draw();
        good("fact(0), not tried", x.fact(0), -2);
        x.tries(1);
        good("fact(0), not tried", x.fact(0), -2);
        good("fact(1)", x.fact(1), 2);
        x.tries(0);
        good("fact(0)", x.fact(0), 0);
        good("fact(2), SURE but not tried", x.fact(2), -2);
        enter(CLASH);
        good("fact(0), without WORLDS", x.fact(0), -2);
    }

    // ---- promise 40: "Costs so far. NONE: 1 (no SCHOOL)."

    static void promise40_noSchool() {
        none();
        refused("spent()", x.spent(), 1);
        enter(TERM);
        good("spent()", x.spent(), 0);
    }

    static void promise40_noneAndMost() {
        open(EIGHT + ";" + lines("trial # cost 99", 8));
        good("spent(), no hidden WAY", x.spent(), 0);
        x.draw();
        good("spent()", x.spent(), 0);
        for (int t = 0; t < 8; t++) {
            x.tries(t);
            good("spent() for " + t, x.spent(), 99 * (t + 1));
        }
        x.tries(0);
        good("spent(), none for a refused trial", x.spent(), 792);
        enter(CLASH);
        good("spent(), without WORLDS", x.spent(), 0);
    }

    // ---- promise 41: "A MARK: its number. NONE: 1 (no SCHOOL); 3."

    static void promise41_noSchool() {
        none();
        refused("mark()", x.mark(), 1);
        due("size(9)", x.size(9), 0);
        enter(TERM);
        good("mark()", x.mark(), 0);
    }

    static void promise41_upTo3() {
        open(TERM);
        for (int m = 0; m < 3; m++) {
            good("mark()", x.mark(), m);
            due("size(9)", x.size(9), m + 1);
        }
        x.draw();
        x.tries(0);
        refused("mark(), the fourth", x.mark(), 3);
        refused("mark(), the fifth", x.mark(), 3);
        due("size(9)", x.size(9), 3);
        x.back(2);
        refused("mark(), all MARKS stay", x.mark(), 3);
        good("the third is as it was: spent()", x.spent(), 0);
        enter(TERM);
        good("mark() in a new SCHOOL", x.mark(), 0);
    }

    static void promise41_nothingElseChanges() {
        open(TERM);
        x.draw();
        x.tries(0);
        x.mark();
        x.mark();
        String state = state();
        x.back(0);
        due("state", state(), state);
        enter(CLASH);
        good("mark(), without WORLDS", x.mark(), 0);
    }

    // ---- promise 42: "All is as by a MARK (all MARKS stay): true; false: 1."

    static void promise42_noSchool() {
        none();
        for (int m : new int[] {0, -1, 1, 3, Integer.MIN_VALUE, Integer.MAX_VALUE}) {
            refused("back(" + m + ")", x.back(m), 1);
        }
        enter(TERM);
        x.mark();
        good("back(0)", x.back(0));
    }

    static void promise42_noSuchMark() {
        open(TERM);
        refused("back(0), no MARKS", x.back(0), 1);
        for (int marks = 1; marks <= 3; marks++) {
            x.seed(marks);
            x.mark();
            x.draw();
            x.tries(0);
            String state = state();
            for (int m : new int[] {-1, marks, marks + 1, marks + 32, Integer.MIN_VALUE, Integer.MAX_VALUE}) {
                refused("back(" + m + ")", x.back(m), 1);
            }
            due("all stays", state(), state);
            good("back(" + (marks - 1) + ")", x.back(marks - 1));
            due("SEED", x.size(8), marks);
            due("MARKS", x.size(9), marks);
        }
    }

    /** "each keeps SEED, the hidden WAY, FACTS, costs". */
    static void promise42_allIsAsByTheMark() {
        open(TERM);
        x.seed(9);
        String first = state();
        x.mark();
        x.draw();
        x.tries(1);
        String second = state();
        x.mark();
        x.tries(0);
        String third = state();
        x.mark();
        x.seed(2);
        x.draw();
        String[] states = {first, second, third};
        int[] order = {1, 0, 2, 2, 0, 1};
        for (int m : order) {
            good("back(" + m + ")", x.back(m));
            due("state by MARK " + m, atMark(state()), atMark(states[m]));
        }
        x.back(1);
        good("tries(0) of the hidden WAY of then", x.tries(0), 1);
        due("SEED", x.size(8), 749);
    }

    /** MARKS stay, so how many there are is left out: it is the tenth of the sizes. */
    private static String atMark(String state) {
        String[] words = state.split(" ");
        words[10] = "-";
        return String.join(" ", words);
    }

    /** Two MARKS of like FACTS but unlike ANSWERS. */
    static void promise42_likeFactsOfUnlikeAnswers() {
        for (int t = 0; t < 6; t++) {
            for (int a = 1; a < 4; a++) {
                open(lines("thing # answers 4", 6) + ";" + lines("trial # cost 1", 6));
                hide(0);
                good("tries(" + t + ")", x.tries(t), 0);
                x.mark();
                hide(a << 10 - 2 * t);
                good("tries(" + t + ")", x.tries(t), a);
                x.mark();
                good("world(0)", x.world(0), a << 10 - 2 * t);
                x.back(0);
                good("world(0)", x.world(0), 0);
                good("sure(" + t + ")", x.sure(t), 0);
                x.back(1);
                good("world(0)", x.world(0), a << 10 - 2 * t);
                good("sure(" + t + ")", x.sure(t), a);
            }
        }
    }

    static void promise42_likeFactsOfTwoThings() {
        for (int one = 0; one < 16; one++) {
            for (int other = 0; other < one; other++) {
                open(lines("thing # answers 4", 6) + ";" + lines("trial # cost 1", 6));
                for (int way : new int[] {one, other}) {
                    hide(way << 8);
                    x.tries(0);
                    x.tries(1);
                    x.mark();
                }
                x.back(0);
                good("world(0)", x.world(0), one << 8);
                good("worlds()", x.worlds(), 256);
                x.back(1);
                good("world(0)", x.world(0), other << 8);
            }
        }
    }

    static void promise42_unlikeFactsOfTheFirstAndTheLastThing() {
        int[] facts = {1, 128, 129};
        for (int hidden : new int[] {0, 1, 128, 129}) {
            for (int other : new int[] {0, 1, 128, 129}) {
                for (int one = 0; one < 3; one++) {
                    open(EIGHT + ";" + lines("trial # cost 1", 8));
                    markTried(hidden, facts[one]);
                    markTried(other, facts[(one + 1) % 3]);
                    x.back(0);
                    seesFacts(hidden, facts[one]);
                    x.back(1);
                    seesFacts(other, facts[(one + 1) % 3]);
                }
            }
        }
    }

    /** A hidden WAY of 256, of which a (bit 128 of its number, 1 of facts) and h are tried. */
    private static void markTried(int way, int facts) {
        hide(way);
        if ((facts & 1) != 0) {
            good("tries(0)", x.tries(0), way >> 7);
        }
        if ((facts & 128) != 0) {
            good("tries(7)", x.tries(7), way & 1);
        }
        x.mark();
    }

    private static void seesFacts(int way, int facts) {
        good("may(0)", x.may(0), (facts & 1) != 0 ? 1 << (way >> 7) : 3);
        good("may(7)", x.may(7), (facts & 128) != 0 ? 1 << (way & 1) : 3);
        good("worlds()", x.worlds(), facts == 129 ? 64 : 128);
    }

    /** The WORLD of a number is hidden, if all WAYS are WORLDS: by the SEED that comes ahead of it. */
    private static void hide(int way) {
        for (int seed = 0; seed <= 65536; seed++) {
            if ((75 * seed + 74) % 65537 == way) {
                x.seed(seed);
            }
        }
        x.draw();
        due("SEED", x.size(8), way);
    }

    static void promise42_answeredRightBehindARefusal() {
        open(TERM);
        x.mark();
        refused("back(1)", x.back(1), 1);
        good("back(0)", x.back(0));
        refused("seed(-1)", x.seed(-1), 2);
        good("seed(0)", x.seed(0));
    }

    static void promise42_whatIsReckonedFollows() {
        open(TERM);
        x.mark();
        good("worst()", x.worst(), 100);
        x.draw();
        x.tries(1);
        good("worst()", x.worst(), 99);
        x.mark();
        x.tries(0);
        good("worst()", x.worst(), 0);
        x.back(1);
        good("worst()", x.worst(), 99);
        good("settled()", x.settled(), 2);
        x.back(0);
        good("worst()", x.worst(), 100);
        good("settled()", x.settled(), 0);
    }

    public static void main(String[] args) {
        runAll(Bounds36To42Test.class, 36, 42);
    }
}
