/** Boundary cases of promises 19 to 24: trials and lessons. */
public final class Bounds19To24Test extends Desk {
    private static final String EIGHT = lines("thing # answers 2", 8);
    /** No WAY is LAWFUL. */
    private static final String CLASH = "thing a answers 2;thing b answers 3;master m ever;master n plain;"
        + "says m a 0;says m a 1;says n b 1;trial a cost 1;trial b cost 1";
    /** Four WORLDS, and of b no trial. */
    private static final String CANNOT = "thing a answers 2;thing b answers 2;trial a cost 4";
    /** One WORLD, and no trial. */
    private static final String KNOWN = "thing a answers 2;master e ever;says e a 0";
    /** WORLDS 0, 1, 3: if a is 1, b is known; a trial of a alone. */
    private static final String HALF = "thing a answers 2;thing b answers 2;follows a 1,b 1;trial a cost 4";
    /** By a first it costs 5 in each of 7 WORLDS; by b first but 2 in one of them. */
    private static final String SEVEN = "thing a answers 3;thing b answers 3;follows b 0,a 0;trial a cost 3;trial b cost 2";

    private static void planned(int worst, int first, int upper, int lower, int meanFirst) {
        good("worst()", x.worst(), worst);
        good("first()", x.first(), first);
        good("mean(false)", x.mean(false), upper);
        good("mean(true)", x.mean(true), lower);
        good("meanFirst()", x.meanFirst(), meanFirst);
    }

    // ---- promise 19: "WORST; -2 if trials can't make all SURE. NONE: 1 (no SCHOOL); 6 (no WORLDS)."

    static void promise19_noSchool() {
        none();
        refused("worst()", x.worst(), 1);
        enter(SEVEN);
        good("worst()", x.worst(), 5);
    }

    static void promise19_noWorlds() {
        open(CLASH);
        refused("worst()", x.worst(), 6);
    }

    static void promise19_trialsCant() {
        open(CANNOT);
        good("worst()", x.worst(), -2);
        good("worst() again", x.worst(), -2);
        enter(EIGHT);
        good("worst(), no trial", x.worst(), -2);
        enter(EIGHT + ";" + lines("trial # cost 1", 7));
        good("worst(), one trial lacks", x.worst(), -2);
        enter(EIGHT + ";" + lines("trial # cost 1", 8));
        good("worst(), none lacks", x.worst(), 8);
    }

    static void promise19_allSureAlready() {
        open(KNOWN);
        good("worst(), no trial", x.worst(), 0);
        enter(KNOWN + ";trial a cost 9");
        good("worst()", x.worst(), 0);
    }

    static void promise19_leastAndGreatestCost() {
        open("thing a answers 2;trial a cost 1");
        good("worst()", x.worst(), 1);
        enter(EIGHT + ";" + lines("trial # cost 99", 8));
        good("worst()", x.worst(), 792);
        enter(lines("thing # answers 4", 4) + ";" + lines("thing z# answers 2", 4) + ";" + lines("trial # cost 99", 4)
            + ";" + lines("trial z# cost 99", 4));
        good("worst() of 4,096 WORLDS", x.worst(), 792);
    }

    static void promise19_whatFollowsNeedsNoTrial() {
        String same = "thing a answers 2;thing b answers 2;follows a 0,b 0;follows a 1,b 1";
        open(same);
        good("worst(), no trial", x.worst(), -2);
        enter(same + ";trial b cost 99");
        good("worst(), by b alone", x.worst(), 99);
        enter(same + ";trial b cost 99;trial a cost 98");
        good("worst(), by the cheaper one", x.worst(), 98);
    }

    static void promise19_byWhatTrialsToldSoFar() {
        open(HALF);
        good("worst(), a 0 tells nothing of b", x.worst(), -2);
        x.draw();
        good("tries(0)", x.tries(0), 1);
        good("worst(), a 1 tells b", x.worst(), 0);
        x.seed(873);
        x.draw();
        good("worst(), nothing is told", x.worst(), -2);
        good("tries(0)", x.tries(0), 0);
        good("worst(), a 0", x.worst(), -2);
    }

    // ---- promise 20: "FIRST by WORST; -2. NONE: likewise; 5 (trials can't)."

    static void promise20_noSchool() {
        none();
        refused("first()", x.first(), 1);
        enter(SEVEN);
        good("first()", x.first(), 0);
    }

    static void promise20_noWorlds() {
        open(CLASH);
        refused("first()", x.first(), 6);
    }

    static void promise20_trialsCant() {
        open(CANNOT);
        refused("first()", x.first(), 5);
        enter(EIGHT);
        refused("first(), no trial", x.first(), 5);
        enter(HALF);
        refused("first()", x.first(), 5);
        x.draw();
        x.tries(0);
        good("first(), none needs be now", x.first(), -2);
    }

    static void promise20_noneNeedsBe() {
        open(KNOWN);
        good("first()", x.first(), -2);
        enter(KNOWN + ";trial a cost 1");
        good("first(), though there is a trial", x.first(), -2);
    }

    static void promise20_theFirstSuch() {
        open(EIGHT + ";" + lines("trial # cost 7", 8));
        good("first()", x.first(), 0);
        enter(SEVEN);
        good("first(), of like ones", x.first(), 0);
    }

    static void promise20_theLastThing() {
        open(EIGHT + ";master z ever;" + lines("says z # 0", 7) + ";" + lines("trial # cost 1", 8));
        good("first(), the others are SURE", x.first(), 7);
        good("worst()", x.worst(), 1);
    }

    // ---- promise 21: "MEAN in lowest terms: the upper WHOLE, or the lower. NONE: likewise; 5."

    static void promise21_noSchool() {
        none();
        refused("mean(false)", x.mean(false), 1);
        refused("mean(true)", x.mean(true), 1);
        enter(SEVEN);
        good("mean(false)", x.mean(false), 32);
        good("mean(true)", x.mean(true), 7);
    }

    static void promise21_noWorlds() {
        open(CLASH);
        refused("mean(false)", x.mean(false), 6);
        refused("mean(true)", x.mean(true), 6);
    }

    static void promise21_trialsCant() {
        open(CANNOT);
        refused("mean(false)", x.mean(false), 5);
        refused("mean(true)", x.mean(true), 5);
        enter(HALF);
        refused("mean(true)", x.mean(true), 5);
    }

    static void promise21_nothingByOne() {
        open(KNOWN);
        good("mean(false)", x.mean(false), 0);
        good("mean(true)", x.mean(true), 1);
    }

    static void promise21_leastAndGreatest() {
        open("thing a answers 2;trial a cost 1");
        planned(1, 0, 1, 1, 0);
        enter(lines("thing # answers 4", 6) + ";" + lines("trial # cost 99", 6));
        planned(594, 0, 594, 1, 0);
    }

    /** a tells all but by its ANSWER 3: 3 in 3 WORLDS, 5 in 2. */
    static void promise21_inLowestTerms() {
        open("thing a answers 4;thing b answers 2;follows a 0,b 0;follows a 1,b 0;follows a 2,b 0;trial b cost 2;"
            + "trial a cost 3");
        planned(5, 0, 19, 5, 0);
        enter("thing a answers 3;thing b answers 2;follows a 0,b 0;follows a 1,b 0;trial b cost 4;trial a cost 2");
        planned(6, 0, 4, 1, 0);
    }

    static void promise21_byWorldsThatAreLeft() {
        open(SEVEN);
        x.draw();
        good("tries(1), 74 mod 7 is 4: a 1, b 2", x.tries(1), 2);
        planned(3, 0, 3, 1, 0);
        good("tries(0)", x.tries(0), 1);
        planned(0, -2, 0, 1, -2);
    }

    // ---- promise 22: "FIRST by MEAN; -2. NONE: likewise; 5."

    static void promise22_noSchool() {
        none();
        refused("meanFirst()", x.meanFirst(), 1);
        enter(SEVEN);
        good("meanFirst()", x.meanFirst(), 1);
    }

    static void promise22_noWorlds() {
        open(CLASH);
        refused("meanFirst()", x.meanFirst(), 6);
    }

    static void promise22_trialsCant() {
        open(CANNOT);
        refused("meanFirst()", x.meanFirst(), 5);
        enter(EIGHT);
        refused("meanFirst(), no trial", x.meanFirst(), 5);
    }

    static void promise22_noneNeedsBe() {
        open(KNOWN + ";trial a cost 1");
        good("meanFirst()", x.meanFirst(), -2);
    }

    static void promise22_anotherThanByWorst() {
        open(SEVEN);
        planned(5, 0, 32, 7, 1);
    }

    static void promise22_theFirstSuchAndTheLastThing() {
        open(EIGHT + ";" + lines("trial # cost 7", 8));
        good("meanFirst()", x.meanFirst(), 0);
        enter(EIGHT + ";master z ever;" + lines("says z # 0", 7) + ";" + lines("trial # cost 1", 8));
        good("meanFirst(), the others are SURE", x.meanFirst(), 7);
    }

    // ---- promise 23: "LEFT. NONE: 1; 5 (a blind one, or he says something of it)."

    private static final String LESSONS = "thing a answers 2;thing b answers 4;master k blind;master p plain;"
        + "master e ever;master c change";

    static void promise23_noSchool() {
        none();
        outside("left(#, 0)", 0, 1, m -> x.left(m, 0));
        outside("left(0, #)", 0, 1, t -> x.left(0, t));
    }

    static void promise23_noSuchMasterOrThing() {
        open(LESSONS);
        good("left(3, 1)", x.left(3, 1), 8);
        outside("left(#, 0)", 4, 1, m -> x.left(m, 0));
        outside("left(1, #)", 2, 1, t -> x.left(1, t));
        outside("left(0, #), 1 ahead of 5", 2, 1, t -> x.left(0, t));
        enter(EIGHT);
        outside("left(#, 0), no masters", 0, 1, m -> x.left(m, 0));
        enter(EIGHT + ";" + lines("master m# plain", 6));
        good("left(5, 7)", x.left(5, 7), 256);
        outside("left(#, 7)", 6, 1, m -> x.left(m, 7));
        outside("left(5, #)", 8, 1, t -> x.left(5, t));
    }

    static void promise23_aBlindOne() {
        open(LESSONS);
        refused("left(0, 0)", x.left(0, 0), 5);
        refused("left(0, 1)", x.left(0, 1), 5);
        good("left(1, 0), plain", x.left(1, 0), 8);
        good("left(2, 0), ever", x.left(2, 0), 4);
        good("left(2, 1), ever", x.left(2, 1), 6);
        good("left(3, 0), change", x.left(3, 0), 8);
    }

    static void promise23_heSaysSomethingOfIt() {
        open(LESSONS + ";says p a 0;says e b 3");
        refused("left(1, 0)", x.left(1, 0), 5);
        good("left(1, 1)", x.left(1, 1), 6);
        refused("left(2, 1)", x.left(2, 1), 5);
        good("left(2, 0)", x.left(2, 0), 3);
        good("left(3, 0), others do", x.left(3, 0), 6);
        enter(CLASH);
        refused("left(0, 0), without WORLDS", x.left(0, 0), 5);
    }

    /** "(0 if none can be)". */
    static void promise23_noAnswerCanBe() {
        open(CLASH);
        good("left(0, 1), without WORLDS", x.left(0, 1), 0);
        good("left(1, 0), without WORLDS", x.left(1, 0), 0);
        enter("thing a answers 2;master p plain;master r plain;law pair;law wrong 0;says p a 0");
        good("worlds()", x.worlds(), 1);
        good("left(1, 0): both would be right", x.left(1, 0), 0);
    }

    static void promise23_moreWorldsThanNow() {
        open("thing a answers 2;master p plain;master q plain;master r plain;law pair;says p a 0;says q a 0");
        good("worlds()", x.worlds(), 0);
        good("left(2, 0), with a third law pair is silent", x.left(2, 0), 2);
        good("worlds() as they were", x.worlds(), 0);
    }

    static void promise23_oneAnswerCanBe() {
        open("thing a answers 2;thing b answers 3;master e ever;master f ever;says f a 0");
        good("left(0, 0), 0 alone", x.left(0, 0), 3);
        enter("thing a answers 2;thing b answers 3;master e ever;master f ever;says f a 1");
        good("left(0, 0), 1 alone", x.left(0, 0), 3);
        enter("thing a answers 4;thing b answers 3;master p plain;master f ever;law wrong 0;says f a 0;says f a 1;"
            + "says f a 2");
        good("left(0, 0), 3 alone", x.left(0, 0), 3);
    }

    static void promise23_ofAllUnlikeSayings() {
        open(EIGHT + ";master w plain;master y plain;master z ever;" + lines("says w # 0", 8) + ";" + lines("says y # 1", 8));
        good("worlds()", x.worlds(), 256);
        good("left(2, 7), the seventeenth", x.left(2, 7), 128);
        refused("left(1, 7)", x.left(1, 7), 5);
        good("listen()", x.listen(), 16);
        good("worlds()", x.worlds(), 256);
    }

    static void promise23_theSeventeenthSaying() {
        open("thing a answers 2;thing b answers 2;master p plain;master c change;" + lines("says p a 0", 15)
            + ";says c a 0");
        good("left(1, 1), behind his other one", x.left(1, 1), 2);
        good("left(0, 1)", x.left(0, 1), 4);
        due("size(2), sayings as told", x.size(2), 16);
        refused("saying(16, 0)", x.saying(16, 0), 1);
        refused("right(16)", x.right(16), 1);
        good("worlds() as they were", x.worlds(), 4);
        good("left(1, 1), he still says nothing of it", x.left(1, 1), 2);
    }

    static void promise23_byFacts() {
        open(LESSONS + ";trial b cost 1");
        x.draw();
        x.tries(1);
        good("left(2, 0)", x.left(2, 0), 1);
        good("left(2, 1)", x.left(2, 1), 2);
        good("left(1, 1)", x.left(1, 1), 2);
    }

    // ---- promise 24: "The best to LISTEN to, 8 times the MASTER and the THING. NONE: 1 (no SCHOOL); 6 (there is none)."

    static void promise24_noSchool() {
        none();
        refused("listen()", x.listen(), 1);
        enter(LESSONS);
        good("listen()", x.listen(), 16);
    }

    static void promise24_thereIsNone() {
        open(EIGHT);
        refused("listen(), no masters", x.listen(), 6);
        enter("thing a answers 2;master k blind;master l blind");
        refused("listen(), blind ones", x.listen(), 6);
        enter("thing a answers 2;master k blind;master p plain;says p a 1");
        refused("listen(), all is said", x.listen(), 6);
        refused("listen() again", x.listen(), 6);
        enter("thing a answers 2;master e ever;says e a 0;says e a 1");
        refused("listen(), without WORLDS", x.listen(), 6);
    }

    static void promise24_theFirstAndTheLast() {
        open("thing a answers 2;master p plain");
        good("listen()", x.listen(), 0);
        enter(EIGHT + ";" + lines("master k# blind", 5) + ";master z plain;" + lines("says z # 0", 7));
        good("listen(), the sixth MASTER of the eighth THING", x.listen(), 47);
    }

    static void promise24_firstByMastersThenThings() {
        open("thing a answers 2;thing b answers 2;master p plain;master q plain");
        good("listen(), all alike", x.listen(), 0);
        enter("thing a answers 2;thing b answers 2;master p plain;master q plain;says p a 0");
        good("listen(), p of b ahead of q of a", x.listen(), 1);
        enter("thing a answers 2;thing b answers 2;master p plain;master e ever;master f ever");
        good("listen(), the least LEFT", x.listen(), 8);
        enter("thing a answers 3;thing b answers 2;master e ever");
        good("listen(), the least LEFT", x.listen(), 1);
    }

    static void promise24_leftOf0IsTheLeast() {
        open("thing a answers 2;thing b answers 2;master p plain;master r plain;law pair;law wrong 0;says p a 0");
        good("left(0, 1)", x.left(0, 1), 1);
        good("left(1, 0)", x.left(1, 0), 0);
        good("listen()", x.listen(), 8);
        enter(CLASH);
        good("listen(), without WORLDS", x.listen(), 1);
    }

    static void promise24_byFacts() {
        open("thing a answers 3;thing b answers 2;master e ever;trial a cost 1;trial b cost 1");
        good("listen(): of a 4, of b 3 are LEFT", x.listen(), 1);
        x.draw();
        x.tries(1);
        good("listen(): of a 2, of b 3 are LEFT", x.listen(), 0);
        x.tries(0);
        good("listen(): of a 1, of b 1", x.listen(), 0);
        x.draw();
        good("listen(), no FACTS again", x.listen(), 1);
    }

    public static void main(String[] args) {
        runAll(Bounds19To24Test.class, 19, 24);
    }
}
