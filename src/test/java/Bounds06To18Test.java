/** Boundary cases of promises 6 to 18: worlds. */
public final class Bounds06To18Test extends Desk {
    /** WORLDS 0, 1, 3, 4 of 6 WAYS; drawn by SEED 0 it is 3: x 1, y 0. */
    private static final String PAIR = "thing x answers 2;thing y answers 3;master p plain;master q plain;"
        + "master e ever;law pair;says p x 1;says q x 0;says e y 2;trial x cost 3;trial y cost 5";
    /** No WAY is LAWFUL behind the second saying. */
    private static final String CLASH = "thing a answers 2;thing b answers 3;master m ever;master n plain;"
        + "says m a 0;says m a 1;says n b 1;trial a cost 1;trial b cost 1";
    private static final String EIGHT = lines("thing # answers 2", 8);
    private static final String GREAT = lines("thing # answers 4", 6);

    // ---- promise 6: "How many WAYS there are. NONE: 1 (no SCHOOL)."

    static void promise06_noSchool() {
        none();
        refused("ways()", x.ways(), 1);
        enter(PAIR);
        good("ways()", x.ways(), 6);
    }

    static void promise06_fewestAndMost() {
        open("thing a answers 2");
        good("ways()", x.ways(), 2);
        enter(GREAT);
        good("ways()", x.ways(), 4096);
        enter(EIGHT);
        good("ways()", x.ways(), 256);
    }

    static void promise06_asManyAsAnswersMake() {
        int[] ways = {3, 9, 27, 81, 243, 729, 2187};
        for (int things = 1; things <= 7; things++) {
            open(lines("thing # answers 3", things));
            good("ways()", x.ways(), ways[things - 1]);
            good("worlds()", x.worlds(), ways[things - 1]);
            good("the last of them", x.world(ways[things - 1] - 1), ways[things - 1] - 1);
            refused("none behind it", x.world(ways[things - 1]), 1);
        }
        enter(lines("thing # answers 3", 5) + ";thing f answers 4;thing g answers 4");
        good("ways()", x.ways(), 3888);
        good("worlds()", x.worlds(), 3888);
    }

    static void promise06_aSmallSchoolBehindAGreatOne() {
        open(GREAT);
        enter("thing a answers 3");
        good("ways()", x.ways(), 3);
        good("worlds()", x.worlds(), 3);
        outside("world(#)", 3, 1, i -> x.world(i));
        outside("lawful(#)", 3, 1, i -> x.lawful(i));
        good("may(0)", x.may(0), 7);
        good("likely(0, 2, true)", x.likely(0, 2, true), 3);
    }

    static void promise06_lawfulOrNot() {
        open(CLASH);
        good("ways() without WORLDS", x.ways(), 6);
        enter(PAIR);
        x.draw();
        x.tries(0);
        x.tries(1);
        good("ways() with FACTS", x.ways(), 6);
    }

    // ---- promise 7: "How many WORLDS. NONE: 1 (no SCHOOL)."

    static void promise07_noSchool() {
        none();
        refused("worlds()", x.worlds(), 1);
        enter(PAIR);
        good("worlds()", x.worlds(), 4);
    }

    static void promise07_noneAndAll() {
        open(CLASH);
        good("worlds(), none", x.worlds(), 0);
        enter(GREAT);
        good("worlds(), all", x.worlds(), 4096);
        enter("thing a answers 4;master e ever;says e a 0;says e a 1;says e a 2");
        good("worlds(), one", x.worlds(), 1);
    }

    static void promise07_thatAgreeWithFacts() {
        open(PAIR);
        x.draw();
        good("worlds(), no FACT", x.worlds(), 4);
        x.tries(0);
        good("worlds(), one FACT", x.worlds(), 2);
        x.tries(1);
        good("worlds(), all are FACTS", x.worlds(), 1);
    }

    // ---- promise 8: "The number of the i-th WORLD. NONE: 1 (no SCHOOL, i)."

    static void promise08_noSchool() {
        none();
        outside("world(#)", 0, 1, i -> x.world(i));
        enter(PAIR);
        good("world(0)", x.world(0), 0);
    }

    static void promise08_firstAndLast() {
        open(PAIR);
        good("world(0)", x.world(0), 0);
        good("world(1)", x.world(1), 1);
        good("world(2)", x.world(2), 3);
        good("world(3)", x.world(3), 4);
        outside("world(#)", 4, 1, i -> x.world(i));
    }

    static void promise08_withFacts() {
        open(PAIR);
        x.draw();
        x.tries(0);
        good("world(0)", x.world(0), 3);
        good("world(1)", x.world(1), 4);
        outside("world(#)", 2, 1, i -> x.world(i));
        x.tries(1);
        good("world(0)", x.world(0), 3);
        outside("world(#)", 1, 1, i -> x.world(i));
    }

    static void promise08_noWorlds() {
        open(CLASH);
        outside("world(#)", 0, 1, i -> x.world(i));
    }

    static void promise08_of4096() {
        open(GREAT);
        for (int i : new int[] {0, 1, 63, 64, 65, 127, 128, 2048, 4094, 4095}) {
            good("world(" + i + ")", x.world(i), i);
        }
        outside("world(#)", 4096, 1, i -> x.world(i));
        enter(GREAT + ";master z ever;says z a 0;says z f 3");
        good("worlds()", x.worlds(), 2304);
        good("world(0)", x.world(0), 1024);
        good("world(2303)", x.world(2303), 4094);
        outside("world(#)", 2304, 1, i -> x.world(i));
    }

    // ---- promise 9: "Whether a WAY is LAWFUL: 1, 0. NONE: 1."

    static void promise09_noSchool() {
        none();
        outside("lawful(#)", 0, 1, i -> x.lawful(i));
        enter(PAIR);
        good("lawful(0)", x.lawful(0), 1);
    }

    static void promise09_firstAndLastWay() {
        open(PAIR);
        int[] lawful = {1, 1, 0, 1, 1, 0};
        for (int way = 0; way < 6; way++) {
            good("lawful(" + way + ")", x.lawful(way), lawful[way]);
        }
        outside("lawful(#)", 6, 1, i -> x.lawful(i));
        enter(GREAT);
        good("lawful(4095)", x.lawful(4095), 1);
        outside("lawful(#)", 4096, 1, i -> x.lawful(i));
        enter(lines("thing # answers 2", 6));
        good("lawful(63)", x.lawful(63), 1);
        outside("lawful(#)", 64, 1, i -> x.lawful(i));
    }

    static void promise09_farApart() {
        open(GREAT + ";master z ever;says z f 3;says z a 0");
        int[][] lawful = {{0, 0}, {64, 0}, {1023, 0}, {1024, 1}, {1027, 0}, {2048, 1}, {2051, 0}, {4092, 1}, {4094, 1},
            {4095, 0}};
        for (int[] way : lawful) {
            good("lawful(" + way[0] + ")", x.lawful(way[0]), way[1]);
        }
        enter(lines("thing # answers 2", 4) + ";" + lines("thing z# answers 4", 4) + ";master y ever;says y zd 3");
        good("lawful(4095), the eighth of four ANSWERS", x.lawful(4095), 0);
        good("lawful(4094)", x.lawful(4094), 1);
        good("worlds()", x.worlds(), 3072);
        good("may(7)", x.may(7), 7);
    }

    static void promise09_noWorlds() {
        open(CLASH);
        for (int way = 0; way < 6; way++) {
            good("lawful(" + way + ")", x.lawful(way), 0);
        }
        outside("lawful(#)", 6, 1, i -> x.lawful(i));
    }

    static void promise09_againstFactsYetLawful() {
        open(PAIR);
        x.draw();
        x.tries(0);
        x.tries(1);
        good("lawful(0), x isn't 0", x.lawful(0), 1);
        good("lawful(2)", x.lawful(2), 0);
        good("lawful(3), the hidden one", x.lawful(3), 1);
    }

    /** "what follows is so: if the first THING has the first ANSWER, the second has the second". */
    static void promise09_whatFollows() {
        open("thing a answers 2;thing b answers 3;follows a 1,b 2");
        int[] lawful = {1, 1, 1, 0, 0, 1};
        for (int way = 0; way < 6; way++) {
            good("lawful(" + way + ")", x.lawful(way), lawful[way]);
        }
    }

    /** "of two sayings of one who is change, one behind the other .. (of his), just one is right". */
    static void promise09_changeOfOneOrMoreSayings() {
        String three = "thing a answers 3;thing b answers 2;master c change;master p plain";
        open(three + ";says c a 0");
        good("worlds(), one saying of his", x.worlds(), 6);
        enter(three + ";says c a 0;says p a 1;says p b 1;says c a 0");
        good("worlds(), the same twice", x.worlds(), 0);
        enter(three + ";says c a 0;says p a 1;says p b 1;says c b 0");
        good("worlds(), others between", x.worlds(), 3);
        good("lawful(0), both right", x.lawful(0), 0);
        good("lawful(1), the first right", x.lawful(1), 1);
        good("lawful(2), the second right", x.lawful(2), 1);
        good("lawful(3), both wrong", x.lawful(3), 0);
        enter(three + ";says c a 0;says c b 0;says c a 1");
        good("worlds(): right, wrong, right never; wrong, right, wrong", x.worlds(), 1);
        good("world(0): a 2, b 0", x.world(0), 4);
    }

    /** "blind ones say anything". */
    static void promise09_blindByAllLaws() {
        open("thing a answers 2;thing b answers 2;master k blind;master l blind;law pair;law runs;law wrong 0;"
            + "says k a 0;says k b 0;says k a 1;says l a 0;says l b 1");
        good("worlds()", x.worlds(), 4);
    }

    /** "of each THING of which just two MASTERS that aren't blind say anything". */
    static void promise09_pairOfJustTwo() {
        String three = "thing a answers 3;master p plain;master q plain;master r plain;master k blind;law pair";
        open(three + ";says p a 0");
        good("worlds(), one says", x.worlds(), 3);
        enter(three + ";says p a 0;says p a 1");
        good("worlds(), one says twice", x.worlds(), 3);
        enter(three + ";says p a 0;says k a 1");
        good("worlds(), one and a blind one", x.worlds(), 3);
        enter(three + ";says p a 0;says q a 1");
        good("worlds(), two", x.worlds(), 2);
        good("lawful(2)", x.lawful(2), 0);
        enter(three + ";says p a 0;says q a 1;says k a 2");
        good("worlds(), two and a blind one", x.worlds(), 2);
        enter(three + ";says p a 0;says q a 1;says r a 1");
        good("worlds(), three", x.worlds(), 3);
        enter(three + ";says p a 0;says q a 0");
        good("worlds(), two who say the same", x.worlds(), 0);
    }

    /** "all sayings of the one are right, all of the other one wrong". */
    static void promise09_pairOfAllSayings() {
        String three = "thing a answers 3;master p plain;master q plain;law pair";
        open(three + ";says p a 0;says p a 1;says q a 2");
        good("worlds(), one says two", x.worlds(), 1);
        good("world(0)", x.world(0), 2);
        enter(three + ";says p a 0;says p a 0;says q a 2;says q a 1");
        good("worlds()", x.worlds(), 1);
        good("world(0)", x.world(0), 0);
        enter(three + ";says p a 0;says p a 1;says q a 2;says q a 1");
        good("worlds(), neither can", x.worlds(), 0);
    }

    static void promise09_pairOfEightThings() {
        String two = EIGHT + ";master y plain;master z plain;law pair;" + lines("says y # 0", 8) + ";";
        open(two + lines("says z # 1", 8));
        good("worlds()", x.worlds(), 256);
        enter(two + lines("says z # 1", 7) + ";says z h 0");
        good("worlds(), of h both say the same", x.worlds(), 0);
        good("culprit()", x.culprit(), 15);
        enter(two + lines("says z # 1", 7));
        good("worlds(), of h but one", x.worlds(), 256);
    }

    /** "law wrong: each plain MASTER is wrong in no more THINGS". */
    static void promise09_wrongInNoMoreThings() {
        String said = ";master p plain;" + lines("says p # 0", 8);
        int[] worlds = {1, 9, 37, 93, 163, 219, 247, 255, 256};
        for (int most = 0; most <= 8; most++) {
            open(EIGHT + said + ";law wrong " + most);
            good("worlds(), wrong in no more than " + most, x.worlds(), worlds[most]);
        }
        open("thing a answers 3;thing b answers 2;master p plain;law wrong 1;says p a 0;says p a 1;says p b 0");
        good("worlds(), of a something is wrong", x.worlds(), 3);
        enter("thing a answers 2;master c change;master e ever;law wrong 0;says c a 0;says e a 0");
        good("worlds(), of plain ones alone", x.worlds(), 1);
    }

    /** "law runs: no plain MASTER is wrong in two sayings one behind the other (of his)". */
    static void promise09_runsOfTwo() {
        String three = "thing a answers 2;thing b answers 2;thing c answers 2;master p plain;master q plain;law runs";
        open(three + ";says p a 0");
        good("worlds(), one saying", x.worlds(), 8);
        enter(three + ";says p a 0;says q b 0;says q c 0;says p b 0");
        good("worlds(): neither a 1, b 1 nor b 1, c 1", x.worlds(), 5);
        enter(three + ";says p a 0;says p b 0;says p c 0");
        good("worlds(), the first and the last may", x.lawful(5), 1);
        good("worlds()", x.worlds(), 5);
        enter(three + ";says p a 0;says p a 0");
        good("worlds(), the same twice", x.worlds(), 4);
        enter(three.replace("plain", "change") + ";says p a 0;says q a 0");
        good("worlds(), not of change", x.worlds(), 8);
    }

    // ---- promise 10: "CULPRIT; -2 if there is none. NONE: 1 (no SCHOOL)."

    static void promise10_noSchool() {
        none();
        refused("culprit()", x.culprit(), 1);
        enter(PAIR);
        good("culprit()", x.culprit(), -2);
    }

    static void promise10_noSayings() {
        open(EIGHT);
        good("culprit()", x.culprit(), -2);
        enter("thing a answers 2;thing b answers 2;follows a 0,b 0;follows a 0,b 1;follows a 1,b 0;follows a 1,b 1");
        good("worlds()", x.worlds(), 0);
        good("culprit(), no WORLDS and no saying", x.culprit(), -2);
    }

    static void promise10_theFirstSaying() {
        String never = "thing a answers 2;thing b answers 2;master e ever;master k blind;"
            + "follows a 1,b 0;follows a 1,b 1;";
        open(never + "says e a 0;says e b 0;says k a 0");
        good("culprit()", x.culprit(), 0);
        enter(never + "says k a 1;says e b 0;says e a 0");
        good("culprit()", x.culprit(), 2);
        enter(never + "follows a 0,b 0;follows a 0,b 1;says k a 1;says e b 0");
        good("culprit(), no WAY without any saying either", x.culprit(), 0);
    }

    static void promise10_theLastOfSixteen() {
        String text = "thing a answers 2;master k blind;master e ever;says e a 0;" + lines("says k a 0", 14);
        open(text + ";says e a 1");
        good("culprit()", x.culprit(), 15);
        enter(text + ";says e a 0");
        good("culprit(), none of sixteen", x.culprit(), -2);
    }

    static void promise10_aloneWithThoseAhead() {
        open("thing a answers 2;master p plain;master q plain;master r plain;law pair;says p a 0;says q a 0;says r a 0");
        good("worlds(), with the third", x.worlds(), 2);
        good("culprit(), without it", x.culprit(), 1);
        enter(CLASH);
        good("culprit()", x.culprit(), 1);
        good("culprit() again", x.culprit(), 1);
    }

    /** CULPRIT asks for LAWFUL WAYS, not for WORLDS: by p and q alone a can't be 2, and it is. */
    static void promise10_withoutFacts() {
        open("thing a answers 3;master p plain;master q plain;master r plain;law pair;says p a 0;says q a 1;says r a 0;"
            + "trial a cost 1");
        x.draw();
        good("tries(0): 74 mod 3 is 2", x.tries(0), 2);
        good("culprit()", x.culprit(), -2);
    }

    // ---- promise 11: "The ANSWER of a SURE THING; -2 if it isn't. NONE: 1; 6 (no WORLDS)."

    static void promise11_noSchool() {
        none();
        outside("sure(#)", 0, 1, t -> x.sure(t));
    }

    static void promise11_noSuchThing() {
        open(PAIR);
        good("sure(0)", x.sure(0), -2);
        good("sure(1)", x.sure(1), -2);
        outside("sure(#)", 2, 1, t -> x.sure(t));
        enter(EIGHT);
        good("sure(7)", x.sure(7), -2);
        outside("sure(#)", 8, 1, t -> x.sure(t));
    }

    static void promise11_noWorlds() {
        open(CLASH);
        refused("sure(0)", x.sure(0), 6);
        refused("sure(1)", x.sure(1), 6);
        outside("sure(#), 1 ahead of 6", 2, 1, t -> x.sure(t));
    }

    static void promise11_leastAndGreatestAnswer() {
        open("thing a answers 4;thing b answers 4;master e ever;says e a 0;says e a 1;says e a 2;"
            + "says e b 1;says e b 2;says e b 3");
        good("sure(0)", x.sure(0), 3);
        good("sure(1)", x.sure(1), 0);
    }

    static void promise11_byAFact() {
        open(PAIR);
        x.draw();
        good("sure(0), hidden alone", x.sure(0), -2);
        x.tries(0);
        good("sure(0)", x.sure(0), 1);
        good("sure(1)", x.sure(1), -2);
    }

    // ---- promise 12: "ANSWERS that a THING has in some WORLD, as bits. NONE: 1."

    static void promise12_noSchool() {
        none();
        outside("may(#)", 0, 1, t -> x.may(t));
    }

    static void promise12_noSuchThing() {
        open(PAIR);
        good("may(0)", x.may(0), 3);
        good("may(1)", x.may(1), 3);
        outside("may(#)", 2, 1, t -> x.may(t));
    }

    static void promise12_noWorldsNoBits() {
        open(CLASH);
        good("may(0)", x.may(0), 0);
        good("may(1)", x.may(1), 0);
        outside("may(#)", 2, 1, t -> x.may(t));
    }

    static void promise12_oneBitAndAll() {
        open("thing a answers 4;thing b answers 4;thing c answers 4;master e ever;says e a 0;says e a 1;says e a 2;"
            + "says e b 1;says e b 2;says e b 3");
        good("may(0)", x.may(0), 8);
        good("may(1)", x.may(1), 1);
        good("may(2)", x.may(2), 15);
    }

    static void promise12_of4096() {
        open(GREAT + ";master z ever;says z f 3;says z a 0");
        int[] may = {14, 15, 15, 15, 15, 7};
        for (int t = 0; t < 6; t++) {
            good("may(" + t + ")", x.may(t), may[t]);
        }
    }

    static void promise12_byFacts() {
        open(PAIR);
        x.draw();
        x.tries(0);
        good("may(0)", x.may(0), 2);
        good("may(1)", x.may(1), 3);
    }

    // ---- promise 13: likely. "NONE: 1; 6 (no WORLDS)."

    static void promise13_noSchool() {
        none();
        outside("likely(#, 0, true)", 0, 1, t -> x.likely(t, 0, true));
        outside("likely(0, #, false)", 0, 1, a -> x.likely(0, a, false));
    }

    static void promise13_noSuchThingOrAnswer() {
        open(PAIR);
        outside("likely(#, 0, true)", 2, 1, t -> x.likely(t, 0, true));
        outside("likely(#, 1, false)", 2, 1, t -> x.likely(t, 1, false));
        good("likely(0, 1, true)", x.likely(0, 1, true), 2);
        outside("likely(0, #, true)", 2, 1, a -> x.likely(0, a, true));
        good("likely(1, 2, true)", x.likely(1, 2, true), 1);
        outside("likely(1, #, false)", 3, 1, a -> x.likely(1, a, false));
        enter("thing a answers 4;thing b answers 2");
        good("likely(0, 3, true)", x.likely(0, 3, true), 4);
        outside("likely(0, #, true)", 4, 1, a -> x.likely(0, a, true));
        outside("likely(1, #, true), though a has it", 2, 1, a -> x.likely(1, a, true));
    }

    static void promise13_noWorlds() {
        open(CLASH);
        refused("likely(0, 0, true)", x.likely(0, 0, true), 6);
        refused("likely(1, 2, false)", x.likely(1, 2, false), 6);
        outside("likely(#, 0, true), 1 ahead of 6", 2, 1, t -> x.likely(t, 0, true));
        outside("likely(0, #, true), 1 ahead of 6", 2, 1, a -> x.likely(0, a, true));
    }

    static void promise13_inLowestTerms() {
        open(PAIR);
        good("likely(1, 2, false), never", x.likely(1, 2, false), 0);
        good("likely(1, 2, true), never", x.likely(1, 2, true), 1);
        good("likely(1, 0, false), 2 of 4", x.likely(1, 0, false), 1);
        good("likely(1, 0, true), 2 of 4", x.likely(1, 0, true), 2);
        x.draw();
        x.tries(0);
        good("likely(0, 1, false), always", x.likely(0, 1, false), 1);
        good("likely(0, 1, true), always", x.likely(0, 1, true), 1);
        good("likely(0, 0, false), never", x.likely(0, 0, false), 0);
        good("likely(0, 0, true), never", x.likely(0, 0, true), 1);
        enter(GREAT);
        for (int t = 0; t < 6; t++) {
            for (int a = 0; a < 4; a++) {
                good("likely(" + t + ", " + a + ", false), 1,024 of 4,096", x.likely(t, a, false), 1);
                good("likely(" + t + ", " + a + ", true)", x.likely(t, a, true), 4);
            }
        }
        enter("thing a answers 3;thing b answers 4;follows a 0,b 0");
        good("likely(0, 1, false), 4 of 9", x.likely(0, 1, false), 4);
        good("likely(0, 1, true)", x.likely(0, 1, true), 9);
        good("likely(1, 0, false), 3 of 9", x.likely(1, 0, false), 1);
        good("likely(1, 0, true)", x.likely(1, 0, true), 3);
    }

    // ---- promise 14: "SURE THINGS, as bits. NONE: 1 (no SCHOOL); 6 (no WORLDS)."

    static void promise14_noSchool() {
        none();
        refused("settled()", x.settled(), 1);
        enter(PAIR);
        good("settled()", x.settled(), 0);
    }

    static void promise14_noWorlds() {
        open(CLASH);
        refused("settled()", x.settled(), 6);
    }

    static void promise14_noneAndAll() {
        open(EIGHT);
        good("settled(), none", x.settled(), 0);
        enter(EIGHT + ";master z ever;" + lines("says z # 0", 8));
        good("settled(), all", x.settled(), 255);
        enter(EIGHT + ";master z ever;says z a 0;says z h 0");
        good("settled(), the first and the last", x.settled(), 129);
    }

    static void promise14_byFacts() {
        open(PAIR);
        x.draw();
        good("settled(), hidden alone", x.settled(), 0);
        x.tries(1);
        good("settled()", x.settled(), 2);
        x.tries(0);
        good("settled()", x.settled(), 3);
    }

    // ---- promise 15: right. "NONE: 1; 6 (no WORLDS)."

    static void promise15_noSchool() {
        none();
        outside("right(#)", 0, 1, i -> x.right(i));
    }

    static void promise15_noSuchSaying() {
        open(PAIR);
        good("right(0)", x.right(0), -2);
        good("right(2)", x.right(2), 0);
        outside("right(#)", 3, 1, i -> x.right(i));
        enter("thing a answers 2;master k blind;" + lines("says k a 0", 16));
        good("right(15)", x.right(15), -2);
        outside("right(#)", 16, 1, i -> x.right(i));
        enter(EIGHT);
        outside("right(#), no sayings", 0, 1, i -> x.right(i));
    }

    static void promise15_noWorlds() {
        open(CLASH);
        refused("right(0)", x.right(0), 6);
        refused("right(2)", x.right(2), 6);
        outside("right(#), 1 ahead of 6", 3, 1, i -> x.right(i));
    }

    static void promise15_inAllInNoneElse() {
        open(PAIR);
        good("right(0), in some", x.right(0), -2);
        good("right(1), in some", x.right(1), -2);
        good("right(2), in none", x.right(2), 0);
        x.draw();
        x.tries(0);
        good("right(0), in all", x.right(0), 1);
        good("right(1), in none", x.right(1), 0);
    }

    // ---- promise 16: wrongs. "NONE: 1; 6 (no WORLDS)."

    static void promise16_noSchool() {
        none();
        outside("wrongs(#, true)", 0, 1, m -> x.wrongs(m, true));
    }

    static void promise16_noSuchMaster() {
        open(PAIR);
        good("wrongs(2, true)", x.wrongs(2, true), 1);
        outside("wrongs(#, true)", 3, 1, m -> x.wrongs(m, true));
        outside("wrongs(#, false)", 3, 1, m -> x.wrongs(m, false));
        enter(EIGHT);
        outside("wrongs(#, true), no masters", 0, 1, m -> x.wrongs(m, true));
        enter(EIGHT + ";" + lines("master m# blind", 6));
        good("wrongs(5, false)", x.wrongs(5, false), 0);
        outside("wrongs(#, false)", 6, 1, m -> x.wrongs(m, false));
    }

    static void promise16_noWorlds() {
        open(CLASH);
        refused("wrongs(0, true)", x.wrongs(0, true), 6);
        refused("wrongs(1, false)", x.wrongs(1, false), 6);
        outside("wrongs(#, true), 1 ahead of 6", 2, 1, m -> x.wrongs(m, true));
    }

    static void promise16_from0To8() {
        String said = ";" + lines("says m # 0", 8);
        open(EIGHT + ";master m plain;master n plain" + said);
        good("wrongs(0, false), at most", x.wrongs(0, false), 8);
        good("wrongs(0, true), at least", x.wrongs(0, true), 0);
        good("wrongs(1, false), who says nothing", x.wrongs(1, false), 0);
        good("wrongs(1, true), who says nothing", x.wrongs(1, true), 0);
        enter(EIGHT + ";master m ever" + said);
        good("wrongs(0, false), ever", x.wrongs(0, false), 8);
        good("wrongs(0, true), ever", x.wrongs(0, true), 8);
        enter(EIGHT + ";master m plain;law wrong 3" + said);
        good("wrongs(0, false), law wrong", x.wrongs(0, false), 3);
        good("wrongs(0, true), law wrong", x.wrongs(0, true), 0);
    }

    static void promise16_sevenOfEight() {
        String said = ";" + lines("says m # 0", 7);
        open(EIGHT + ";master m ever" + said + ";law wrong 0");
        good("wrongs(0, false)", x.wrongs(0, false), 7);
        good("wrongs(0, true)", x.wrongs(0, true), 7);
        enter(EIGHT + ";master m plain" + said);
        good("wrongs(0, false)", x.wrongs(0, false), 7);
        good("wrongs(0, true)", x.wrongs(0, true), 0);
    }

    static void promise16_inOneWorldAndInMany() {
        open("thing a answers 2;master e ever;says e a 1");
        good("world(0), the only one", x.world(0), 0);
        good("wrongs(0, false)", x.wrongs(0, false), 1);
        good("wrongs(0, true)", x.wrongs(0, true), 1);
        enter(GREAT + ";master y blind;master z ever;says z a 0;says y a 0;says y f 3");
        good("wrongs(0, false)", x.wrongs(0, false), 2);
        good("wrongs(0, true)", x.wrongs(0, true), 1);
        good("wrongs(1, true)", x.wrongs(1, true), 1);
        enter("thing a answers 2;master e ever;says e a 0");
        good("wrongs(0, false), behind a great SCHOOL", x.wrongs(0, false), 1);
        good("wrongs(0, true), behind a great SCHOOL", x.wrongs(0, true), 1);
    }

    static void promise16_inThingsNotSayings() {
        open("thing a answers 3;thing b answers 2;master k blind;says k a 0;says k a 1;says k a 1;says k a 2");
        good("wrongs(0, false)", x.wrongs(0, false), 1);
        good("wrongs(0, true), something is wrong", x.wrongs(0, true), 1);
    }

    static void promise16_byFacts() {
        open(PAIR);
        good("wrongs(0, false)", x.wrongs(0, false), 1);
        good("wrongs(1, true)", x.wrongs(1, true), 0);
        x.draw();
        x.tries(0);
        good("wrongs(0, false), x is 1", x.wrongs(0, false), 0);
        good("wrongs(1, true), x is 1", x.wrongs(1, true), 1);
    }

    // ---- promises 17 and 18: proof, proofBy. "-2 if 3 don't do. NONE: 1."

    private static void proved(int thing, int many, int bits) {
        good("proof(" + thing + ")", x.proof(thing), many);
        good("proofBy(" + thing + ")", x.proofBy(thing), bits);
    }

    static void promise17_noSchool() {
        none();
        outside("proof(#)", 0, 1, t -> x.proof(t));
    }

    static void promise17_noSuchThing() {
        open(PAIR);
        good("proof(1)", x.proof(1), -2);
        outside("proof(#)", 2, 1, t -> x.proof(t));
        enter(EIGHT);
        good("proof(7)", x.proof(7), -2);
        outside("proof(#)", 8, 1, t -> x.proof(t));
    }

    static void promise17_bySayingsFrom0To3() {
        open("thing a answers 2;thing b answers 2;follows a 0,b 1;follows a 1,b 1");
        proved(1, 0, 0);
        proved(0, -2, -2);
        enter("thing a answers 2;master e ever;says e a 0");
        proved(0, 1, 1);
        enter("thing a answers 3;master e ever;says e a 0;says e a 1");
        proved(0, 2, 3);
        enter("thing a answers 4;master e ever;says e a 0;says e a 1;says e a 2");
        proved(0, 3, 7);
    }

    /** y is 0 by e, so c is right of y, so he is wrong of a, which isn't 0; by e it isn't 1. */
    static void promise17_ifFourAreNeeded() {
        String chain = "thing y answers 2;thing a answers #;master e ever;master c change;says e y 1;says c y 0;says c a 0";
        open(chain.replace('#', '2'));
        proved(1, 3, 7);
        enter(chain.replace('#', '3') + ";says e a 1");
        good("sure(1), by four", x.sure(1), 2);
        proved(1, -2, -2);
        proved(0, 1, 1);
    }

    static void promise17_withoutWorlds() {
        open(CLASH);
        proved(0, 1, 1);
        proved(1, -2, -2);
        outside("proof(#)", 2, 1, t -> x.proof(t));
    }

    /** "so that, of these alone, .. there is a LAWFUL WAY": of none nothing is proved. */
    static void promise17_thatLeaveALawfulWay() {
        open("thing a answers 2;thing b answers 2;follows a 0,b 0;follows a 0,b 1;follows a 1,b 0;follows a 1,b 1;"
            + "master k blind;says k a 0");
        proved(0, -2, -2);
        proved(1, -2, -2);
    }

    /** "without FACTS". */
    static void promise17_withoutFacts() {
        open(PAIR);
        x.draw();
        x.tries(0);
        x.tries(1);
        good("sure(1)", x.sure(1), 0);
        proved(0, -2, -2);
        proved(1, -2, -2);
    }

    static void promise18_noSchool() {
        none();
        outside("proofBy(#)", 0, 1, t -> x.proofBy(t));
    }

    static void promise18_noSuchThing() {
        open(PAIR);
        good("proofBy(1)", x.proofBy(1), -2);
        outside("proofBy(#)", 2, 1, t -> x.proofBy(t));
        enter(EIGHT);
        outside("proofBy(#)", 8, 1, t -> x.proofBy(t));
    }

    static void promise18_fewestAheadOfLeastBits() {
        open("thing a answers 3;master e ever;master p plain;law wrong 0;says e a 0;says e a 1;says p a 2");
        proved(0, 1, 4);
    }

    static void promise18_ofLikeOnesTheLeastBits() {
        open("thing a answers 3;thing b answers 3;thing d answers 2;follows a 2,d 1;follows b 2,d 1;master e ever;"
            + "says e a 0;says e b 0;says e b 1;says e a 1");
        proved(2, 2, 6);
        proved(0, 2, 9);
        enter("thing a answers 2;master e ever;says e a 1;says e a 1");
        proved(0, 1, 1);
    }

    static void promise18_theLastThreeOfSixteen() {
        open("thing a answers 4;master k blind;master e ever;" + lines("says k a 0", 13)
            + ";says e a 0;says e a 1;says e a 2");
        proved(0, 3, 7 << 13);
    }

    static void promise18_ofTheLastThing() {
        open(EIGHT + ";master z ever;says z h 1");
        proved(7, 1, 1);
        proved(6, -2, -2);
    }

    /** What LISTEN puts behind all sayings is none of them. */
    static void promise18_bySayingsThatAreTold() {
        open("thing a answers 2;thing b answers 2;master e ever;master f ever;says e b 0");
        good("left(1, 0)", x.left(1, 0), 1);
        proved(0, -2, -2);
        proved(1, 1, 1);
        x.listen();
        good("worlds()", x.worlds(), 2);
        good("culprit()", x.culprit(), -2);
        good("wrongs(1, false)", x.wrongs(1, false), 0);
        good("byLaws(0)", x.byLaws(0), 1);
    }

    static void promise18_ofANewSchool() {
        open("thing a answers 2;master e ever;says e a 0");
        proved(0, 1, 1);
        enter("thing a answers 2;master k blind;master e ever;says k a 0;says e a 0");
        proved(0, 1, 2);
        tell("thing a answers 9");
        proved(0, 1, 2);
    }

    public static void main(String[] args) {
        runAll(Bounds06To18Test.class, 6, 18);
    }
}
