/** Boundary cases of promises 1 to 5: a new object, THE TAPE, school, fault, where. */
public final class Bounds01To05Test extends Desk {
    private static final String ONE = "thing a answers 2";
    private static final String TWO = "thing a answers 2;thing b answers 3;trial a cost 4;trial b cost 5";
    private static final String BLANKS = "                    ";

    // ---- promise 1: "No SCHOOL."

    static void promise01_aNewObjectHasNothing() {
        none();
        for (int what = 0; what <= 11; what++) {
            due("size(" + what + ")", x.size(what), 0);
        }
        due("trouble()", x.trouble(), 0);
        due("fault()", x.fault(), 0);
        due("where()", x.where(), -1);
        due("led(0)", led(0), THROWN);
    }

    static void promise01_eachCallThatAsksForASchoolIsRefusedBy1() {
        none();
        refusedWithoutSchool();
    }

    static void promise01_aFaultyTextMakesNoSchool() {
        none();
        refused("school of a text with a FAULT", tell("thing a answers 2;x"), 4);
        refusedWithoutSchool();
        for (int what = 0; what <= 11; what++) {
            due("size(" + what + ")", x.size(what), 0);
        }
    }

    private static void refusedWithoutSchool() {
        refused("ways()", x.ways(), 1);
        refused("worlds()", x.worlds(), 1);
        refused("world(0)", x.world(0), 1);
        refused("lawful(0)", x.lawful(0), 1);
        refused("culprit()", x.culprit(), 1);
        refused("sure(0)", x.sure(0), 1);
        refused("may(0)", x.may(0), 1);
        refused("likely(0, 0, true)", x.likely(0, 0, true), 1);
        refused("settled()", x.settled(), 1);
        refused("right(0)", x.right(0), 1);
        refused("wrongs(0, true)", x.wrongs(0, true), 1);
        refused("proof(0)", x.proof(0), 1);
        refused("proofBy(0)", x.proofBy(0), 1);
        refused("worst()", x.worst(), 1);
        refused("first()", x.first(), 1);
        refused("mean(true)", x.mean(true), 1);
        refused("meanFirst()", x.meanFirst(), 1);
        refused("left(0, 0)", x.left(0, 0), 1);
        refused("listen()", x.listen(), 1);
        refused("believes(0, 0)", x.believes(0, 0), 1);
        refused("knows(0)", x.knows(0), 1);
        refused("share(0)", x.share(0), 1);
        refused("passes(0, 0, true)", x.passes(0, 0, true), 1);
        refused("agree(0, 1, true)", x.agree(0, 1, true), 1);
        refused("home(0)", x.home(0), 1);
        refused("bestHome()", x.bestHome(), 1);
        refused("byLaws(0)", x.byLaws(0), 1);
        refused("cheapest()", x.cheapest(), 1);
        refused("seed(0)", x.seed(0), 1);
        refused("draw()", x.draw(), 1);
        refused("tries(0)", x.tries(0), 1);
        refused("fact(0)", x.fact(0), 1);
        refused("spent()", x.spent(), 1);
        refused("mark()", x.mark(), 1);
        refused("back(0)", x.back(0), 1);
        refused("saying(0, 0)", x.saying(0, 0), 1);
    }

    static void promise01_objectsShareNothing() {
        open(TWO);
        TwoMasters taught = x;
        x.draw();
        x.tries(0);
        x.mark();
        x.feed(1, 2, 3, 4, 5);
        none();
        due("things of the other", x.size(0), 0);
        due("bytes of the other", x.size(11), 0);
        refused("worlds() of the other", x.worlds(), 1);
        enter(ONE);
        x = taught;
        due("things", x.size(0), 2);
        due("bytes", x.size(11), 20);
        good("worlds()", x.worlds(), 3);
    }

    /** "An object is used for at most 512 calls": the 512th is still answered as promised. */
    static void promise01_the512thCall() {
        none();
        x.feed(0x7468696e, 0x67206120, 0x616e7377, 0x65727320, 0x34202020);
        x.school(17);
        for (int calls = 2; calls < 510; calls++) {
            x.seed(calls);
        }
        x.draw();
        due("size(8), the 512th: 75 times 509 and 74", x.size(8), 75 * 509 + 74);
    }

    // ---- promise 2: feed

    /** "how many it has; NONE, and none comes, if there would be more than 900". */
    static void promise02_900BytesAndNoMore() {
        none();
        fillTape();
        open(ONE);
        fillTape();
    }

    private static void fillTape() {
        for (int i = 1; i <= 45; i++) {
            due("feed() " + i, x.feed(0, 0, 0, 0, 0), 20 * i);
            due("size(11)", x.size(11), 20 * i);
        }
        for (int more = 0; more < 3; more++) {
            due("feed() of a full TAPE", x.feed(0, 0, 0, 0, 0), -1);
            due("size(11) of a full TAPE", x.size(11), 900);
        }
    }

    static void promise02_ofARefusedFeedNoneComes() {
        none();
        StringBuilder text = new StringBuilder(TWO);
        while (text.length() < 900) {
            text.append(' ');
        }
        due("feed() of 900 bytes", feed(text.toString()), 900);
        due("feed() of 20 more", x.feed(-1, -1, -1, -1, -1), -1);
        good("school(900): no byte is another", x.school(900), 2);
    }

    /** "Twenty bytes .., of each number the highest first". */
    static void promise02_eachOfTwentyBytesAtItsPlace() {
        for (int place = 0; place < 20; place++) {
            none();
            int[] n = new int[5];
            for (int k = 0; k < 20; k++) {
                n[k / 4] |= (k == place ? 0xe9 : 32) << 24 - k % 4 * 8;
            }
            due("feed()", x.feed(n[0], n[1], n[2], n[3], n[4]), 20);
            refused("school(20)", x.school(20), 4);
            due("where(), byte " + place, x.where(), place);
        }
    }

    /** "come behind THE TAPE". */
    static void promise02_behindWhatIsThere() {
        none();
        due("feed()", feed(BLANKS), 20);
        due("feed()", feed(BLANKS), 40);
        due("feed()", feed("thing a answers 3   "), 60);
        due("feed()", feed("!"), 80);
        refused("school(61)", x.school(61), 4);
        due("where()", x.where(), 60);
        feed(BLANKS);
        feed("thing a answers 3   ");
        good("school(40)", x.school(40), 1);
    }

    static void promise02_fromEmptyAgainBehindSchool() {
        none();
        fillTape();
        refused("school(0)", x.school(0), 4);
        due("feed() behind a FAULT", x.feed(0, 0, 0, 0, 0), 20);
        x.school(20);
        enter(ONE);
        due("feed() behind a SCHOOL", x.feed(0, 0, 0, 0, 0), 20);
        refused("school(21)", x.school(21), 2);
        due("feed() behind one refused by 2", x.feed(0, 0, 0, 0, 0), 40);
    }

    /** Of feed no number is told: it isn't among the calls that TROUBLE tells of. */
    static void promise02_noTroubleOfItsOwn() {
        none();
        refused("school(1)", x.school(1), 2);
        fillTape();
        due("trouble() behind a refused feed()", x.trouble(), 2);
        refused("school(900)", x.school(900), 4);
        due("feed()", x.feed(0, 0, 0, 0, 0), 20);
        due("trouble() behind feed()", x.trouble(), 4);
        x.school(20);
        enter(ONE);
        fillTape();
        due("trouble() behind a refused feed()", x.trouble(), 0);
    }

    // ---- promise 3: school

    /** "NONE: 2 (THE TAPE stays)". */
    static void promise03_aNumberOutOfBoundsWithoutSchool() {
        none();
        outside("school(#), THE TAPE empty", 1, 2, n -> x.school(n));
        feed(TWO);
        int fed = x.size(11);
        outside("school(#)", fed + 1, 2, n -> x.school(n));
        due("size(11), THE TAPE stays", x.size(11), fed);
        due("size(0), no SCHOOL", x.size(0), 0);
        good("school()", x.school(TWO.length()), 2);
    }

    static void promise03_aNumberOutOfBoundsWithASchool() {
        open(TWO);
        x.draw();
        x.tries(1);
        x.mark();
        String state = state();
        feed(ONE);
        outside("school(#)", 21, 2, n -> x.school(n));
        due("size(11), THE TAPE stays", x.size(11), 20);
        due("the SCHOOL stays", state(), state);
        good("school()", x.school(ONE.length()), 1);
    }

    /** "The first n bytes of THE TAPE (it is empty then)". */
    static void promise03_fewerThanTheTapeHas() {
        none();
        feed("thing a answers 2;thing b answers 2");
        good("school(17)", x.school(17), 1);
        due("size(11)", x.size(11), 0);
        refused("school(1)", x.school(1), 2);
        feed("thing a answers 2;thing b answers 2");
        refused("school(18)", x.school(18), 4);
        due("where(), the end", x.where(), 18);
        due("size(11)", x.size(11), 0);
    }

    static void promise03_allThatTheTapeHas() {
        none();
        due("feed()", feed("thing abcd answers 4"), 20);
        good("school(20)", x.school(20), 1);
        due("size(11)", x.size(11), 0);
        feed("thing abcd answers 4");
        refused("school(19), all but the last byte", x.school(19), 4);
        due("where()", x.where(), 19);
        feed("thing abcd answers 4");
        feed(";law runs;law pair  ");
        good("school(40)", x.school(40), 1);
        due("LAWS", x.size(6), 5);
    }

    /** An empty text: the end is a place with which no SCHOOL goes on. */
    static void promise03_noneOfTheTape() {
        none();
        refused("school(0), THE TAPE empty", x.school(0), 4);
        due("fault()", x.fault(), 1);
        refused("school(0)", x.school(0), 4);
        due("where()", x.where(), 0);
        feed(ONE);
        refused("school(0)", x.school(0), 4);
        due("where()", x.where(), 0);
        due("size(11), it is empty then", x.size(11), 0);
        refused("school(1)", x.school(1), 2);
    }

    static void promise03_900Bytes() {
        none();
        StringBuilder text = new StringBuilder(ONE);
        while (text.length() < 882) {
            text.append(' ');
        }
        text.append(";thing b answers 2");
        due("length", text.length(), 900);
        good("school(900)", tell(text.toString()), 2);
        feed(text.toString());
        refused("school(899)", x.school(899), 4);
        due("where()", x.where(), 899);
        feed(text.toString());
        refused("school(901)", x.school(901), 2);
        due("size(11)", x.size(11), 900);
    }

    /** "how many things". */
    static void promise03_fewestAndMostThings() {
        none();
        good("one", tell(ONE), 1);
        good("eight", tell(lines("thing # answers 2", 8)), 8);
        good("one again", tell("law pair;" + ONE), 1);
    }

    /** "4 (the SCHOOL stays)". */
    static void promise03_aFaultLeavesSchoolAndTermAsTheyAre() {
        open(TWO);
        x.seed(9);
        x.mark();
        x.draw();
        x.tries(1);
        x.mark();
        String state = state();
        refused("school of a FAULT", tell("thing z answers 4;master m ever;says m z 4"), 4);
        due("size(11), THE TAPE is empty", x.size(11), 0);
        due("the SCHOOL stays", state(), state);
        refused("school(0)", x.school(0), 4);
        due("the SCHOOL stays", state(), state);
        good("back(0)", x.back(0));
        due("SEED by the MARK", x.size(8), 9);
        good("worst()", x.worst(), 9);
    }

    /** "(SEED 0, no hidden WAY, no FACTS, no costs, no MARKS)". */
    static void promise03_aNewSchoolBeginsAnew() {
        open(TWO);
        x.seed(9);
        x.draw();
        x.tries(0);
        x.tries(1);
        x.mark();
        enter(TWO);
        due("SEED", x.size(8), 0);
        due("a hidden WAY", x.size(10), 0);
        due("MARKS", x.size(9), 0);
        refused("back(0)", x.back(0), 1);
        good("fact(0)", x.fact(0), -2);
        good("fact(1)", x.fact(1), -2);
        good("spent()", x.spent(), 0);
        good("worlds()", x.worlds(), 6);
        refused("tries(0)", x.tries(0), 6);
        good("mark()", x.mark(), 0);
    }

    static void promise03_ofTheOldSchoolNothingIsLeft() {
        open(lines("thing # answers 2", 8) + ";law pair;law runs;law wrong 8;" + lines("master m# ever", 6) + ";"
            + lines("says ma # 0", 8) + ";" + lines("child c# hears ma", 5) + ";" + lines("trial # cost 9", 8)
            + ";follows a 1,b 1");
        int[] sizes = {1, 0, 0, 0, 0, 0, 0, -2, 0, 0, 0, 0};
        for (int again = 0; again < 3; again++) {
            enter("thing z answers 3");
            for (int what = 0; what < sizes.length; what++) {
                due("size(" + what + ")", x.size(what), sizes[what]);
            }
        }
        good("worlds()", x.worlds(), 3);
        good("worst(), no trial", x.worst(), -2);
        refused("knows(0)", x.knows(0), 1);
        refused("saying(0, 0)", x.saying(0, 0), 1);
        enter("thing ma answers 2;master a plain;law pair;law runs;law wrong 0;trial ma cost 1;child ca hears a");
        due("the NAMES are free again", x.size(3), 1);
    }

    static void promise03_ofATextWithAFaultNothingIsLeft() {
        none();
        refused("school of a FAULT at the end", tell("law pair;law wrong 4;master z ever;thing a answers 4;says z a 0;"
            + "child c hears z;trial a cost 3;thing b answers 2;follows a 0,b 0;"), 4);
        enter("thing a answers 2");
        int[] sizes = {1, 0, 0, 0, 0, 0, 0, -2, 0, 0, 0, 0};
        for (int what = 0; what < sizes.length; what++) {
            due("size(" + what + ")", x.size(what), sizes[what]);
        }
        good("ways()", x.ways(), 2);
        good("worlds()", x.worlds(), 2);
        good("worst()", x.worst(), -2);
    }

    // ---- promise 4: fault

    /** "The FAULT of the latest school() not refused by 2; 0 without one." */
    static void promise04_noneYet() {
        none();
        due("fault()", x.fault(), 0);
        x.school(1);
        due("fault(), school() but refused by 2", x.fault(), 0);
    }

    static void promise04_ofTheLatestNotRefusedBy2() {
        none();
        tell("law runs");
        due("fault()", x.fault(), 6);
        refused("school(1)", x.school(1), 2);
        due("fault() behind one refused by 2", x.fault(), 6);
        tell("says m");
        due("fault() of the next", x.fault(), 2);
        x.years(1, 1, 1);
        x.worlds();
        feed(ONE);
        due("fault() behind other calls", x.fault(), 2);
        good("school()", x.school(ONE.length()), 1);
        due("fault() of a SCHOOL", x.fault(), 0);
        refused("school(1)", x.school(1), 2);
        due("fault() behind one refused by 2", x.fault(), 0);
        tell("thing a answers 5");
        due("fault() with a SCHOOL", x.fault(), 4);
        good("ways()", x.ways(), 2);
        due("fault() behind ways()", x.fault(), 4);
    }

    static void promise04_eachNumberFrom1To7() {
        none();
        String[] faulty = {"", "says m", "law pair;law pair", "law wrong 9", lines("master # plain", 7), "law pair",
            lines("thing # answers 4", 7)};
        for (int fault = 1; fault <= 7; fault++) {
            refused("school() of FAULT " + fault, tell(faulty[fault - 1]), 4);
            due("fault()", x.fault(), fault);
        }
    }

    // ---- promise 5: where

    /** "Its place, if the latest call that may be refused was by 4; NONE else." */
    static void promise05_onlyRightBehindTheFault() {
        none();
        due("where() of a new object", x.where(), -1);
        tell(ONE + ";x");
        due("where()", x.where(), 18);
        due("where() again", x.where(), 18);
        refused("worlds()", x.worlds(), 1);
        due("where() behind another refused call", x.where(), -1);
        tell(ONE + ";x");
        good("years(0, 0, 0)", x.years(0, 0, 0), 0);
        due("where() behind an answered call", x.where(), -1);
        tell(ONE + ";x");
        refused("school(1)", x.school(1), 2);
        due("where() behind school() refused by 2", x.where(), -1);
        due("fault() is still there", x.fault(), 1);
        tell(ONE);
        due("where() behind a SCHOOL", x.where(), -1);
        tell(ONE + ";;");
        due("where() with a SCHOOL", x.where(), 18);
        good("seed(5)", x.seed(5));
        due("where() behind seed()", x.where(), -1);
        tell(ONE + ";;");
        refused("back(0)", x.back(0), 1);
        due("where() behind back()", x.where(), -1);
    }

    static void promise05_callsThatTellNoNumberDontCount() {
        none();
        tell("  7");
        x.feed(0, 0, 0, 0, 0);
        x.fault();
        x.trouble();
        x.size(0);
        x.size(12);
        led(0);
        due("where() without SCHOOL", x.where(), 2);
        x.school(0);
        enter(ONE);
        tell("   7");
        for (int i = 0; i < 46; i++) {
            x.feed(0, 0, 0, 0, 0);
        }
        led(0);
        led(9);
        x.size(-1);
        due("where() with a SCHOOL", x.where(), 3);
    }

    static void promise05_theLeastAndTheGreatestPlace() {
        none();
        tell("7");
        due("where(), the first byte", x.where(), 0);
        StringBuilder text = new StringBuilder(ONE);
        while (text.length() < 899) {
            text.append(' ');
        }
        tell(text + "x");
        due("where(), the last byte", x.where(), 899);
        tell(text + ";");
        due("where(), the end of a full TAPE", x.where(), 900);
    }

    public static void main(String[] args) {
        runAll(Bounds01To05Test.class, 1, 5);
    }
}
