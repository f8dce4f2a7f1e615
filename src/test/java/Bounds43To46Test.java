/** Boundary cases of promises 43 to 46: what is seen. */
public final class Bounds43To46Test extends Desk {
    private static final String EIGHT = lines("thing # answers 2", 8);
    private static final String SAID = "thing a answers 2;thing b answers 4;master m plain;master n ever;says n b 3;"
        + "says m a 1;says n a 0;child c hears m;trial b cost 6;law runs";
    /** No WAY is LAWFUL. */
    private static final String CLASH = "thing a answers 2;thing b answers 2;master m ever;says m a 0;says m a 1;"
        + "trial a cost 1";

    // ---- promise 43: "Of a saying 0 its MASTER, 1 its THING, 2 its ANSWER. NONE: 1."

    static void promise43_noSchool() {
        none();
        outside("saying(#, 0)", 0, 1, i -> x.saying(i, 0));
        outside("saying(0, #)", 0, 1, w -> x.saying(0, w));
    }

    static void promise43_noSuchSaying() {
        open(SAID);
        int[][] said = {{1, 1, 3}, {0, 0, 1}, {1, 0, 0}};
        for (int i = 0; i < 3; i++) {
            for (int what = 0; what < 3; what++) {
                good("saying(" + i + ", " + what + ")", x.saying(i, what), said[i][what]);
            }
        }
        outside("saying(#, 0)", 3, 1, i -> x.saying(i, 0));
        enter(EIGHT);
        outside("saying(#, 0), no sayings", 0, 1, i -> x.saying(i, 0));
    }

    static void promise43_sixteen() {
        open("thing a answers 2;thing b answers 4;master m plain;master n blind;" + lines("says m a 0", 15)
            + ";says n b 3");
        good("saying(15, 0)", x.saying(15, 0), 1);
        good("saying(15, 1)", x.saying(15, 1), 1);
        good("saying(15, 2)", x.saying(15, 2), 3);
        good("saying(14, 1)", x.saying(14, 1), 0);
        outside("saying(#, 2)", 16, 1, i -> x.saying(i, 2));
    }

    static void promise43_noSuchNumberOfIt() {
        open(SAID);
        outside("saying(0, #)", 3, 1, w -> x.saying(0, w));
        outside("saying(2, #)", 3, 1, w -> x.saying(2, w));
        outside("saying(3, #)", 0, 1, w -> x.saying(3, w));
    }

    static void promise43_withoutWorlds() {
        open(CLASH);
        good("saying(1, 2)", x.saying(1, 2), 1);
        outside("saying(#, 0)", 2, 1, i -> x.saying(i, 0));
    }

    // ---- promise 44: "The i-th THING that isn't SURE (without WORLDS none is). NoSuchElementException if there is none such."

    private static void throwsFrom(int count) {
        for (int i : new int[] {-1, -2, -32, Integer.MIN_VALUE, count, count + 1, count + 32, Integer.MAX_VALUE}) {
            due("led(" + i + ")", led(i), THROWN);
        }
    }

    static void promise44_noSchool() {
        none();
        throwsFrom(0);
    }

    static void promise44_firstAndLast() {
        open(EIGHT);
        for (int i = 0; i < 8; i++) {
            due("led(" + i + ")", led(i), i);
        }
        throwsFrom(8);
        enter(EIGHT + ";master z ever;says z a 0;says z d 0;says z e 0");
        int[] unsure = {1, 2, 5, 6, 7};
        for (int i = 0; i < 5; i++) {
            due("led(" + i + ")", led(i), unsure[i]);
        }
        throwsFrom(5);
    }

    static void promise44_allSure() {
        open(EIGHT + ";master z ever;" + lines("says z # 0", 8));
        throwsFrom(0);
    }

    /** "without WORLDS none is". */
    static void promise44_withoutWorlds() {
        open(CLASH);
        due("led(0)", led(0), 0);
        due("led(1)", led(1), 1);
        throwsFrom(2);
    }

    static void promise44_byFacts() {
        open(SAID.replace("says n b 3;says m a 1;says n a 0;", ""));
        due("led(1)", led(1), 1);
        x.draw();
        x.tries(1);
        due("led(0)", led(0), 0);
        throwsFrom(1);
    }

    static void promise44_nothingChangesByIt() {
        open(SAID);
        x.draw();
        x.mark();
        String state = state();
        refused("world(-1)", x.world(-1), 1);
        throwsFrom(1);
        due("trouble()", x.trouble(), 1);
        due("all stays", state(), state);
    }

    // ---- promise 45: size. "NONE for others; 0 for what there isn't."

    static void promise45_noSchool() {
        none();
        for (int what = 0; what <= 11; what++) {
            due("size(" + what + ")", x.size(what), 0);
        }
        noOthers();
        x.feed(0, 0, 0, 0, 0);
        due("size(11)", x.size(11), 20);
    }

    private static void noOthers() {
        for (int what : new int[] {-1, -2, 12, 13, 32, 256, Integer.MIN_VALUE, Integer.MAX_VALUE}) {
            due("size(" + what + ")", x.size(what), -1);
        }
    }

    private static void sizes(int... sizes) {
        for (int what = 0; what < sizes.length; what++) {
            due("size(" + what + ")", x.size(what), sizes[what]);
        }
        noOthers();
    }

    static void promise45_theLeastSchool() {
        open("thing a answers 2");
        sizes(1, 0, 0, 0, 0, 0, 0, -2, 0, 0, 0, 0);
    }

    static void promise45_allThatASchoolCanHave() {
        open(EIGHT + ";" + lines("follows a 0,b 0", 6) + ";" + lines("master m# plain", 6) + ";"
            + lines("says ma a 0", 16) + ";" + lines("child c# hears ma", 5) + ";" + lines("trial # cost 1", 8)
            + ";law pair;law runs;law wrong 8");
        x.seed(65536);
        x.draw();
        x.mark();
        x.mark();
        x.mark();
        for (int i = 0; i < 46; i++) {
            x.feed(0, 0, 0, 0, 0);
        }
        sizes(8, 6, 16, 5, 8, 6, 7, 8, 65536, 3, 1, 900);
    }

    /** "6 LAWS told, as bits, 7 wrong's WHOLE (-2)". */
    static void promise45_lawsAndWrongsWhole() {
        open("thing a answers 2;law pair");
        due("size(6)", x.size(6), 1);
        due("size(7)", x.size(7), -2);
        enter("thing a answers 2;law wrong 0");
        due("size(6)", x.size(6), 2);
        due("size(7)", x.size(7), 0);
        enter("thing a answers 2;law wrong 8;law pair");
        due("size(6)", x.size(6), 3);
        due("size(7)", x.size(7), 8);
        enter("thing a answers 2;law runs");
        due("size(6)", x.size(6), 4);
        due("size(7)", x.size(7), -2);
    }

    static void promise45_withoutWorlds() {
        open(CLASH);
        sizes(2, 1, 2, 0, 1, 0, 0, -2, 0, 0, 0, 0);
    }

    static void promise45_aHiddenWay() {
        open(SAID);
        due("size(10)", x.size(10), 0);
        x.mark();
        x.draw();
        due("size(10)", x.size(10), 1);
        x.back(0);
        due("size(10)", x.size(10), 0);
    }

    static void promise45_noTroubleOfItsOwn() {
        open(SAID);
        refused("world(-1)", x.world(-1), 1);
        x.size(0);
        x.size(12);
        due("trouble()", x.trouble(), 1);
        x.ways();
        x.size(-1);
        due("trouble()", x.trouble(), 0);
    }

    // ---- promise 46: "TROUBLE." "of the latest call that may be refused (those of which a number is told here)"

    static void promise46_eachNumberFrom0To6() {
        none();
        due("trouble() of a new object", x.trouble(), 0);
        refused("ways(), there is none such", x.ways(), 1);
        refused("years(-1, 0, 0), a number", x.years(-1, 0, 0), 2);
        enter(SAID);
        due("trouble() behind a SCHOOL", x.trouble(), 0);
        x.mark();
        x.mark();
        x.mark();
        refused("mark(), no room", x.mark(), 3);
        refused("school(0), a FAULT", x.school(0), 4);
        refused("left(0, 0), not so", x.left(0, 0), 5);
        refused("tries(1), there is none", x.tries(1), 6);
        good("ways(), it wasn't", x.ways(), 8);
    }

    static void promise46_ofTheLatestCall() {
        none();
        refused("ways()", x.ways(), 1);
        due("trouble() again", x.trouble(), 1);
        refused("school(1)", x.school(1), 2);
        good("years(1, 1, 1)", x.years(1, 1, 1), 0);
        refused("seed(-1)", x.seed(-1), 1);
        enter(SAID);
        refused("seed(-1)", x.seed(-1), 2);
        good("seed(5)", x.seed(5));
        refused("back(0)", x.back(0), 1);
        x.mark();
        good("back(0)", x.back(0));
    }

    static void promise46_callsThatTellNoNumberLeaveIt() {
        none();
        refused("ways()", x.ways(), 1);
        callThose();
        due("trouble() without SCHOOL", x.trouble(), 1);
        x.school(20);
        enter(SAID);
        refused("left(0, 0)", x.left(0, 0), 5);
        callThose();
        due("trouble() with a SCHOOL", x.trouble(), 5);
        good("ways()", x.ways(), 8);
        callThose();
        due("trouble() with a SCHOOL", x.trouble(), 0);
    }

    private static void callThose() {
        x.feed(0, 0, 0, 0, 0);
        x.fault();
        x.where();
        x.trouble();
        x.size(0);
        x.size(99);
        led(0);
        led(-1);
    }

    /** An answer of -2, 0 or of none isn't a refusal. */
    static void promise46_answersThatAreNoRefusals() {
        open(SAID);
        good("culprit()", x.culprit(), -2);
        good("fact(0)", x.fact(0), -2);
        good("sure(1)", x.sure(1), -2);
        good("proof(1)", x.proof(1), -2);
        good("spent()", x.spent(), 0);
        good("still(0, 0, 1)", x.still(0, 0, 1), -2);
        enter(EIGHT);
        good("worst()", x.worst(), -2);
        enter(CLASH);
        good("worlds()", x.worlds(), 0);
        good("may(0)", x.may(0), 0);
    }

    /** Each call that may be refused clears TROUBLE when it is answered. */
    static void promise46_eachAnsweredCallClearsIt() {
        open(SAID);
        x.draw();
        clears("worlds()", x.years(-1, 0, 0) + x.worlds());
        clears("world(0)", x.years(-1, 0, 0) + x.world(0));
        clears("lawful(0)", x.years(-1, 0, 0) + x.lawful(0));
        clears("culprit()", x.years(-1, 0, 0) + x.culprit());
        clears("sure(0)", x.years(-1, 0, 0) + x.sure(0));
        clears("may(0)", x.years(-1, 0, 0) + x.may(0));
        clears("likely(0, 0, true)", x.years(-1, 0, 0) + x.likely(0, 0, true));
        clears("settled()", x.years(-1, 0, 0) + x.settled());
        clears("right(0)", x.years(-1, 0, 0) + x.right(0));
        clears("wrongs(0, true)", x.years(-1, 0, 0) + x.wrongs(0, true));
        clears("proof(0)", x.years(-1, 0, 0) + x.proof(0));
        clears("proofBy(0)", x.years(-1, 0, 0) + x.proofBy(0));
        clears("worst()", x.years(-1, 0, 0) + x.worst());
        clears("left(0, 1)", x.years(-1, 0, 0) + x.left(0, 1));
        clears("listen()", x.years(-1, 0, 0) + x.listen());
        clears("believes(0, 0)", x.years(-1, 0, 0) + x.believes(0, 0));
        clears("knows(0)", x.years(-1, 0, 0) + x.knows(0));
        clears("share(0)", x.years(-1, 0, 0) + x.share(0));
        clears("passes(0, 0, true)", x.years(-1, 0, 0) + x.passes(0, 0, true));
        clears("agree(0, 1, true)", x.years(-1, 0, 0) + x.agree(0, 1, true));
        clears("home(0)", x.years(-1, 0, 0) + x.home(0));
        clears("bestHome()", x.years(-1, 0, 0) + x.bestHome());
        clears("byLaws(0)", x.years(-1, 0, 0) + x.byLaws(0));
        clears("cheapest()", x.years(-1, 0, 0) + x.cheapest());
        clears("years(0, 0, 0)", x.years(-1, 0, 0) + x.years(0, 0, 0));
        clears("still(0, 0, 0)", x.years(-1, 0, 0) + x.still(0, 0, 0));
        clears("draw()", x.years(-1, 0, 0) + x.draw());
        clears("tries(1)", x.years(-1, 0, 0) + x.tries(1));
        clears("fact(0)", x.years(-1, 0, 0) + x.fact(0));
        clears("spent()", x.years(-1, 0, 0) + x.spent());
        clears("mark()", x.years(-1, 0, 0) + x.mark());
        clears("saying(0, 0)", x.years(-1, 0, 0) + x.saying(0, 0));
        clears("first()", x.years(-1, 0, 0) + x.first());
        clears("mean(true)", x.years(-1, 0, 0) + x.mean(true));
        clears("meanFirst()", x.years(-1, 0, 0) + x.meanFirst());
    }

    private static void clears(String call, int ignored) {
        due("trouble() behind " + call, x.trouble(), 0);
    }

    public static void main(String[] args) {
        runAll(Bounds43To46Test.class, 43, 46);
    }
}
