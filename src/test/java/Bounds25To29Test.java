/** Boundary cases of promises 25 to 29: children, and who agrees with whom. */
public final class Bounds25To29Test extends Desk {
    private static final String EIGHT = lines("thing # answers 2", 8);
    /** c learns a 1; d a 1 and b 1; f a 2; g what can't be. There are no WORLDS. */
    private static final String CLASS = "thing a answers 3;thing b answers 2;master e ever;master m plain;master n plain;"
        + "law wrong 0;says e a 0;says m b 1;says n a 2;says e a 2;child c hears e;child d hears m,e;child f hears n;"
        + "child g hears e,n";
    /** By p and q alone law pair can't be; with r it is silent. */
    private static final String LOST = "thing a answers 2;master p plain;master q plain;master r plain;law pair;"
        + "says p a 0;says q a 0;says r a 0;child c hears p,q;child d hears r,q,p";
    private static final String FIVE = "thing a answers 2;master e ever;says e a 0;" + lines("child c# hears e", 5);

    // ---- promise 25: "What a child BELIEVES of a THING; -2. NONE: 1."

    static void promise25_noSchool() {
        none();
        outside("believes(#, 0)", 0, 1, c -> x.believes(c, 0));
        outside("believes(0, #)", 0, 1, t -> x.believes(0, t));
    }

    static void promise25_noSuchChildOrThing() {
        open(CLASS);
        good("believes(3, 1)", x.believes(3, 1), -2);
        outside("believes(#, 0)", 4, 1, c -> x.believes(c, 0));
        outside("believes(0, #)", 2, 1, t -> x.believes(0, t));
        enter(FIVE);
        good("believes(4, 0)", x.believes(4, 0), 1);
        outside("believes(#, 0)", 5, 1, c -> x.believes(c, 0));
        enter(EIGHT);
        outside("believes(#, 0), no children", 0, 1, c -> x.believes(c, 0));
        enter(EIGHT + ";master z plain;child y hears z");
        good("believes(0, 7)", x.believes(0, 7), 0);
        outside("believes(0, #)", 8, 1, t -> x.believes(0, t));
    }

    /** "-2 if there is none". */
    static void promise25_noLawfulWayForTheChild() {
        open(LOST);
        good("worlds()", x.worlds(), 2);
        good("believes(0, 0)", x.believes(0, 0), -2);
        good("believes(1, 0)", x.believes(1, 0), 0);
        enter(CLASS);
        good("worlds()", x.worlds(), 0);
        good("believes(3, 0)", x.believes(3, 0), -2);
        good("believes(0, 0), without WORLDS", x.believes(0, 0), 1);
    }

    /** "the ANSWER of most WAYS .., the least such". */
    static void promise25_ofLikeOnesTheLeast() {
        open(CLASS);
        good("believes(0, 1), both alike", x.believes(0, 1), 0);
        good("believes(2, 0), the greatest ANSWER", x.believes(2, 0), 2);
        enter("thing a answers 2;thing b answers 3;follows a 0,b 2;master k blind;child c hears k");
        good("believes(0, 0): 0 in 1, 1 in 3", x.believes(0, 0), 1);
        good("believes(0, 1): 2 in 2", x.believes(0, 1), 2);
        enter("thing a answers 4;master e ever;says e a 0;child c hears e");
        good("believes(0, 0): 1, 2 and 3 alike", x.believes(0, 0), 1);
    }

    static void promise25_amongItsOwnAnswers() {
        open("thing a answers 4;thing b answers 2;thing c answers 4;master p plain;child d hears p");
        good("believes(0, 0)", x.believes(0, 0), 0);
        good("believes(0, 1)", x.believes(0, 1), 0);
        good("believes(0, 2)", x.believes(0, 2), 0);
    }

    /** What LISTEN puts behind all sayings no child hears. */
    static void promise25_bySayingsThatAreTold() {
        open("thing a answers 2;master e ever;child c hears e");
        good("left(0, 0)", x.left(0, 0), 1);
        good("believes(0, 0)", x.believes(0, 0), 0);
        good("knows(0)", x.knows(0), 0);
        good("share(1)", x.share(1), 0);
        good("passes(0, 1, true)", x.passes(0, 1, true), 2);
        enter(lines("thing # answers 2", 2) + ";master e ever;child c hears e;says e b 0;says e b 0");
        good("left(0, 0)", x.left(0, 0), 1);
        good("knows(0)", x.knows(0), 2);
        good("believes(0, 0)", x.believes(0, 0), 0);
    }

    static void promise25_withoutFacts() {
        open("thing a answers 2;thing b answers 2;master p plain;child c hears p;trial a cost 1");
        x.seed(872);
        x.draw();
        good("tries(0): 65,474 mod 4 is 2", x.tries(0), 1);
        good("believes(0, 0)", x.believes(0, 0), 0);
    }

    // ---- promise 26: "What a child KNOWS, as bits. NONE: 1."

    static void promise26_noSchool() {
        none();
        outside("knows(#)", 0, 1, c -> x.knows(c));
    }

    static void promise26_noSuchChild() {
        open(CLASS);
        good("knows(3)", x.knows(3), 0);
        outside("knows(#)", 4, 1, c -> x.knows(c));
        enter(FIVE);
        good("knows(4)", x.knows(4), 1);
        outside("knows(#)", 5, 1, c -> x.knows(c));
        enter(EIGHT);
        outside("knows(#), no children", 0, 1, c -> x.knows(c));
    }

    static void promise26_nothingAndAll() {
        open(EIGHT + ";master z ever;master y plain;child w hears y;child v hears z;" + lines("says z # 0", 8));
        good("knows(0)", x.knows(0), 0);
        good("knows(1)", x.knows(1), 255);
        enter(LOST);
        good("knows(0), no LAWFUL WAY for it", x.knows(0), 0);
        good("knows(1)", x.knows(1), 0);
        enter(CLASS);
        good("knows(0), without WORLDS", x.knows(0), 1);
        good("knows(1), without WORLDS", x.knows(1), 3);
    }

    static void promise26_withoutFacts() {
        open("thing a answers 2;master p plain;child c hears p;trial a cost 1");
        x.draw();
        x.tries(0);
        good("settled()", x.settled(), 1);
        good("knows(0)", x.knows(0), 0);
    }

    // ---- promise 27: share. "NONE: 1 (no SCHOOL); 2 (bits of none such)."

    static void promise27_noSchool() {
        none();
        refused("share(0)", x.share(0), 1);
        outside("share(#), 1 ahead of 2", 1, 1, bits -> x.share(bits));
    }

    static void promise27_bitsOfNoneSuch() {
        open(EIGHT);
        good("share(0), no children", x.share(0), 0);
        outside("share(#)", 1, 2, bits -> x.share(bits));
        enter(CLASS);
        good("share(15)", x.share(15), 3);
        outside("share(#)", 16, 2, bits -> x.share(bits));
        enter(FIVE);
        good("share(31)", x.share(31), 1);
        good("share(16)", x.share(16), 1);
        outside("share(#)", 32, 2, bits -> x.share(bits));
    }

    static void promise27_ofNoneOfOneOfAll() {
        open(CLASS);
        good("share(0)", x.share(0), 0);
        good("share(1)", x.share(1), 1);
        good("share(2)", x.share(2), 3);
        good("share(8), who knows nothing", x.share(8), 0);
        good("share(13)", x.share(13), 1);
        enter("thing a answers 2;thing b answers 2;master e ever;master f ever;says e a 0;says f b 0;child c hears e;"
            + "child d hears f");
        good("share(1)", x.share(1), 1);
        good("share(2)", x.share(2), 2);
        good("share(3)", x.share(3), 3);
    }

    // ---- promise 28: passes. "so many THINGS (0 .. 8)", "NONE: 1; 2; 6 (no WORLDS)."

    private static void passed(int child, int need, int upper, int lower) {
        good("passes(" + child + ", " + need + ", false)", x.passes(child, need, false), upper);
        good("passes(" + child + ", " + need + ", true)", x.passes(child, need, true), lower);
    }

    static void promise28_noSchool() {
        none();
        outside("passes(#, 0, true)", 0, 1, c -> x.passes(c, 0, true));
        outside("passes(0, #, true), 1 ahead of 2", 9, 1, n -> x.passes(0, n, true));
    }

    static void promise28_noSuchChild() {
        open(FIVE);
        passed(4, 1, 1, 1);
        outside("passes(#, 0, true)", 5, 1, c -> x.passes(c, 0, true));
        outside("passes(#, 9, false), 1 ahead of 2", 5, 1, c -> x.passes(c, 9, false));
        enter(EIGHT);
        outside("passes(#, 0, true), no children", 0, 1, c -> x.passes(c, 0, true));
        enter(CLASS);
        outside("passes(#, 0, true), 1 ahead of 6", 4, 1, c -> x.passes(c, 0, true));
    }

    static void promise28_needFrom0To8() {
        open(EIGHT + ";master z plain;child y hears z");
        int[] upper = {1, 255, 247, 219, 163, 93, 37, 9, 1};
        for (int need = 0; need <= 8; need++) {
            passed(0, need, upper[need], need == 0 ? 1 : 256);
        }
        outside("passes(0, #, false)", 9, 2, n -> x.passes(0, n, false));
        outside("passes(0, #, true)", 9, 2, n -> x.passes(0, n, true));
        enter("thing a answers 2;master z plain;child y hears z");
        passed(0, 1, 1, 2);
        passed(0, 2, 0, 1);
        passed(0, 8, 0, 1);
        outside("passes(0, #, true)", 9, 2, n -> x.passes(0, n, true));
    }

    static void promise28_noWorlds() {
        open(CLASS);
        refused("passes(0, 0, true)", x.passes(0, 0, true), 6);
        refused("passes(0, 8, false)", x.passes(0, 8, false), 6);
        outside("passes(0, #, true), 2 ahead of 6", 9, 2, n -> x.passes(0, n, true));
    }

    static void promise28_whoBelievesNothing() {
        open(LOST);
        passed(0, 0, 1, 1);
        passed(0, 1, 0, 1);
        passed(1, 1, 1, 2);
    }

    static void promise28_inLowestTerms() {
        open("thing a answers 3;thing b answers 2;master p plain;child c hears p");
        passed(0, 0, 1, 1);
        passed(0, 1, 2, 3);
        passed(0, 2, 1, 6);
        enter("thing a answers 2;master e ever;says e a 0;child c hears e");
        passed(0, 1, 1, 1);
        passed(0, 2, 0, 1);
    }

    static void promise28_of4096() {
        open(lines("thing # answers 4", 6) + ";master z plain;child y hears z");
        passed(0, 0, 1, 1);
        passed(0, 6, 1, 4096);
        passed(0, 7, 0, 1);
        passed(0, 1, 3367, 4096);
        enter("thing a answers 2;master z plain;child y hears z");
        passed(0, 1, 1, 2);
    }

    static void promise28_byFacts() {
        open("thing a answers 2;thing b answers 2;master p plain;child c hears p;trial a cost 1;trial b cost 1");
        x.seed(872);
        x.draw();
        good("tries(0): 65,474 mod 4 is 2", x.tries(0), 1);
        passed(0, 1, 1, 2);
        passed(0, 2, 0, 1);
        good("tries(1)", x.tries(1), 0);
        passed(0, 1, 1, 1);
    }

    // ---- promise 29: agree. "NONE: 1 (MASTERS, unlike)."

    private static final String AGREE = "thing a answers 2;thing b answers 2;thing c answers 2;thing d answers 2;"
        + "master m plain;master n blind;master o ever;says m a 0;says m a 1;says n a 0;says m b 1;says n b 0;"
        + "says n b 1;says m c 0;says n d 0";

    static void promise29_noSchool() {
        none();
        outside("agree(#, 1, true)", 0, 1, m -> x.agree(m, 1, true));
        refused("agree(0, 1, true)", x.agree(0, 1, true), 1);
    }

    static void promise29_noSuchMaster() {
        open(AGREE);
        good("agree(1, 2, true)", x.agree(1, 2, true), 0);
        good("agree(2, 1, false)", x.agree(2, 1, false), 0);
        outside("agree(#, 0, true)", 3, 1, m -> x.agree(m, 0, true));
        outside("agree(0, #, false)", 3, 1, m -> x.agree(0, m, false));
        outside("agree(#, #, true)", 3, 1, m -> x.agree(m, m, true));
        enter(EIGHT);
        outside("agree(#, 1, true), no masters", 0, 1, m -> x.agree(m, 1, true));
        enter(EIGHT + ";" + lines("master m# plain", 6));
        good("agree(0, 5, true)", x.agree(0, 5, true), 0);
        good("agree(5, 0, true)", x.agree(5, 0, true), 0);
        outside("agree(0, #, true)", 6, 1, m -> x.agree(0, m, true));
        outside("agree(#, 0, true)", 6, 1, m -> x.agree(m, 0, true));
    }

    static void promise29_unlikeMasters() {
        open(AGREE);
        for (int m = 0; m < 3; m++) {
            refused("agree(" + m + ", " + m + ", true)", x.agree(m, m, true), 1);
            refused("agree(" + m + ", " + m + ", false)", x.agree(m, m, false), 1);
        }
        enter("thing a answers 2;master p plain;says p a 0");
        refused("agree(0, 0, true), one alone", x.agree(0, 0, true), 1);
        refused("agree(0, 1, true), one alone", x.agree(0, 1, true), 1);
    }

    /** "of which the first saying of each is alike, or else". */
    static void promise29_theFirstSayingOfEach() {
        open(AGREE);
        good("agree(0, 1, true)", x.agree(0, 1, true), 1);
        good("agree(0, 1, false)", x.agree(0, 1, false), 2);
        good("agree(1, 0, true)", x.agree(1, 0, true), 1);
        good("agree(1, 0, false)", x.agree(1, 0, false), 2);
    }

    static void promise29_noBitsAndAll() {
        open(EIGHT + ";master y plain;master z blind;" + lines("says y # 1", 8) + ";" + lines("says z # 1", 8));
        good("agree(0, 1, true)", x.agree(0, 1, true), 255);
        good("agree(0, 1, false)", x.agree(0, 1, false), 0);
        enter(EIGHT + ";master y plain;master z blind;" + lines("says y # 1", 8) + ";" + lines("says z # 0", 8));
        good("agree(0, 1, true)", x.agree(0, 1, true), 0);
        good("agree(0, 1, false)", x.agree(0, 1, false), 255);
        enter("thing a answers 2;thing b answers 2;master y plain;master z blind;says y a 0;says z b 0");
        good("agree(0, 1, true), of nothing both", x.agree(0, 1, true), 0);
        good("agree(0, 1, false), of nothing both", x.agree(0, 1, false), 0);
    }

    static void promise29_withoutWorlds() {
        open("thing a answers 2;master e ever;master f ever;says e a 0;says f a 1");
        good("worlds()", x.worlds(), 0);
        good("agree(0, 1, false)", x.agree(0, 1, false), 1);
    }

    public static void main(String[] args) {
        runAll(Bounds25To29Test.class, 25, 29);
    }
}
