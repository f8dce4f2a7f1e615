/** Boundary cases of promises 30 to 35: words at home, laws, years. */
public final class Bounds30To35Test extends Desk {
    private static final String EIGHT = lines("thing # answers 2", 8);
    private static final String ALL_SURE = EIGHT + ";master z ever;" + lines("says z # 0", 8);
    /** No WAY is LAWFUL, by no laws either. */
    private static final String CLASH = "thing a answers 2;thing b answers 3;master m ever;master n plain;"
        + "says m a 0;says m a 1;says n b 1;trial a cost 1;trial b cost 1";

    // ---- promise 30: "HOME. NONE: 1; 6 (no WORLDS)."

    static void promise30_noSchool() {
        none();
        outside("home(#)", 0, 1, t -> x.home(t));
    }

    static void promise30_noSuchThing() {
        open("thing a answers 2;thing b answers 2");
        good("home(0)", x.home(0), 1);
        good("home(1)", x.home(1), 1);
        outside("home(#)", 2, 1, t -> x.home(t));
        enter(EIGHT);
        good("home(7)", x.home(7), 1);
        outside("home(#)", 8, 1, t -> x.home(t));
    }

    static void promise30_noWorlds() {
        open(CLASH);
        refused("home(0)", x.home(0), 6);
        refused("home(1)", x.home(1), 6);
        outside("home(#), 1 ahead of 6", 2, 1, t -> x.home(t));
    }

    static void promise30_from1To8() {
        open(EIGHT);
        good("home(0), it alone", x.home(0), 1);
        enter(ALL_SURE);
        good("home(0), all are SURE", x.home(0), 8);
        good("home(7), all are SURE", x.home(7), 8);
    }

    /** "for whatever ANSWER it can be the least". */
    static void promise30_theLeastOfAnswersThatCanBe() {
        open("thing a answers 2;thing b answers 2;follows a 0,b 0");
        good("home(0): 2 by 0, 1 by 1", x.home(0), 1);
        good("home(1): 1 by 0, 2 by 1", x.home(1), 1);
        enter("thing a answers 3;thing b answers 2;master e ever;says e a 1;follows a 0,b 0;follows a 2,b 1");
        good("home(0), which can't be 1", x.home(0), 2);
        good("home(1)", x.home(1), 2);
    }

    static void promise30_withFacts() {
        open("thing a answers 2;thing b answers 2;thing c answers 2;trial a cost 1");
        x.draw();
        good("home(1)", x.home(1), 1);
        x.tries(0);
        good("home(0), a FACT", x.home(0), 1);
        good("home(1), and a is SURE", x.home(1), 2);
    }

    // ---- promise 31: "The THING of greatest HOME, the first such. NONE: 1 (no SCHOOL); 6."

    static void promise31_noSchool() {
        none();
        refused("bestHome()", x.bestHome(), 1);
        enter(EIGHT);
        good("bestHome()", x.bestHome(), 0);
    }

    static void promise31_noWorlds() {
        open(CLASH);
        refused("bestHome()", x.bestHome(), 6);
    }

    static void promise31_theFirstSuch() {
        open(EIGHT);
        good("bestHome(), all alike", x.bestHome(), 0);
        enter(ALL_SURE);
        good("bestHome(), all SURE", x.bestHome(), 0);
        enter("thing a answers 2;thing b answers 2;thing c answers 2;follows b 0,c 0;follows b 1,c 1");
        good("bestHome(), b and c alike", x.bestHome(), 1);
    }

    /** z tells what a is, a leaves two ANSWERS of z. */
    static void promise31_theLastThing() {
        open(lines("thing # answers 2", 7) + ";thing z answers 4;follows z 0,a 0;follows z 1,a 1;follows z 2,a 0;"
            + "follows z 3,a 1");
        good("home(0)", x.home(0), 1);
        good("home(7)", x.home(7), 2);
        good("bestHome()", x.bestHome(), 7);
    }

    // ---- promise 32: "SETTLED by LAWS. NONE: 1 (no SCHOOL); 2 (0 .. 7); 6."

    static void promise32_noSchool() {
        none();
        refused("byLaws(0)", x.byLaws(0), 1);
        outside("byLaws(#), 1 ahead of 2", 8, 1, n -> x.byLaws(n));
        enter(EIGHT);
        good("byLaws(0)", x.byLaws(0), 0);
    }

    static void promise32_lawsFrom0To7() {
        open(EIGHT);
        for (int laws = 0; laws <= 7; laws++) {
            good("byLaws(" + laws + ")", x.byLaws(laws), 0);
        }
        outside("byLaws(#)", 8, 2, n -> x.byLaws(n));
        enter(ALL_SURE + ";law pair;law runs;law wrong 0");
        for (int laws = 0; laws <= 7; laws++) {
            good("byLaws(" + laws + ")", x.byLaws(laws), 8);
        }
        outside("byLaws(#)", 8, 2, n -> x.byLaws(n));
    }

    /** "(NONE without LAWFUL WAYS)". */
    static void promise32_withoutLawfulWays() {
        open(CLASH);
        refused("byLaws(0)", x.byLaws(0), 6);
        refused("byLaws(7)", x.byLaws(7), 6);
        outside("byLaws(#), 2 ahead of 6", 8, 2, n -> x.byLaws(n));
        enter("thing a answers 2;master m plain;law wrong 0;law runs;law pair;says m a 0;says m a 1");
        int[] settled = {0, 0, -1, -1, 0, 0, -1, -1};
        for (int laws = 0; laws <= 7; laws++) {
            if (settled[laws] < 0) {
                refused("byLaws(" + laws + ")", x.byLaws(laws), 6);
            } else {
                good("byLaws(" + laws + "), though there are no WORLDS", x.byLaws(laws), settled[laws]);
            }
        }
    }

    /** "those not told are none". */
    static void promise32_lawsNotTold() {
        String said = "thing a answers 2;master m plain;says m a 0;says m a 0";
        open(said);
        good("byLaws(7), no law told", x.byLaws(7), 0);
        enter(said + ";law pair");
        good("byLaws(7)", x.byLaws(7), 0);
        enter(said + ";law runs");
        good("byLaws(7)", x.byLaws(7), 1);
        good("byLaws(4)", x.byLaws(4), 1);
        good("byLaws(3)", x.byLaws(3), 0);
        enter(said + ";law wrong 0");
        good("byLaws(2)", x.byLaws(2), 1);
        good("byLaws(5)", x.byLaws(5), 0);
        enter(said + ";law wrong 1");
        good("byLaws(2), wrong as told", x.byLaws(2), 0);
    }

    /** "without FACTS". */
    static void promise32_withoutFacts() {
        open("thing a answers 2;thing b answers 2;trial a cost 1;trial b cost 1");
        x.draw();
        x.tries(0);
        x.tries(1);
        good("settled()", x.settled(), 3);
        good("byLaws(0)", x.byLaws(0), 0);
        good("byLaws(7)", x.byLaws(7), 0);
    }

    // ---- promise 33: "CHEAPEST. NONE: 1 (no SCHOOL); 6 (no LAWFUL WAYS by all)."

    static void promise33_noSchool() {
        none();
        refused("cheapest()", x.cheapest(), 1);
        enter(EIGHT);
        good("cheapest()", x.cheapest(), 0);
    }

    static void promise33_noLawfulWaysByAll() {
        open(CLASH);
        refused("cheapest()", x.cheapest(), 6);
        enter("thing a answers 2;master m plain;law wrong 0;law runs;law pair;says m a 0;says m a 1");
        good("byLaws(5), there are some by fewer", x.byLaws(5), 0);
        refused("cheapest()", x.cheapest(), 6);
    }

    static void promise33_noLawNeeded() {
        open(EIGHT + ";law pair;law runs;law wrong 0");
        good("cheapest(), none does as much", x.cheapest(), 0);
        enter(ALL_SURE + ";law pair;law runs;law wrong 0");
        good("cheapest(), none does as much", x.cheapest(), 0);
    }

    /** wrong tells b, for m is wrong of a; runs tells c; pair tells d, for p can't be right; z is told with wrong. */
    static void promise33_allLawsNeeded() {
        open("thing a answers 2;thing b answers 2;thing c answers 2;thing d answers 3;thing z answers 2;master m plain;"
            + "master n plain;master p plain;master q plain;law pair;law runs;law wrong 1;says m a 0;says m a 1;"
            + "says m b 0;says n c 0;says n c 0;says p d 0;says p z 0;says p d 1;says q d 2");
        good("byLaws(7)", x.byLaws(7), 4);
        good("byLaws(6)", x.byLaws(6), 3);
        good("byLaws(5)", x.byLaws(5), 3);
        good("byLaws(3)", x.byLaws(3), 3);
        good("cheapest()", x.cheapest(), 7);
    }

    static void promise33_fewestAheadOfLeast() {
        open("thing a answers 2;thing b answers 3;master p plain;master q plain;law pair;law runs;law wrong 1;"
            + "follows b 2,a 1;says q a 0;says p b 2;says q b 0;says q b 0");
        int[] settled = {0, 0, 0, 1, 1, 1, 1, 1};
        for (int laws = 0; laws <= 7; laws++) {
            good("byLaws(" + laws + ")", x.byLaws(laws), settled[laws]);
        }
        good("cheapest(), runs alone ahead of pair and wrong", x.cheapest(), 4);
    }

    static void promise33_ofLikeOnesTheLeast() {
        open("thing d answers 3;master p plain;master q ever;law wrong 0;law pair;law runs;says p d 0;says q d 1");
        good("byLaws(1)", x.byLaws(1), 1);
        good("byLaws(2)", x.byLaws(2), 1);
        good("cheapest(), pair ahead of wrong", x.cheapest(), 1);
        enter("thing c answers 2;master n plain;law runs;law wrong 0;says n c 0;says n c 0");
        good("byLaws(2)", x.byLaws(2), 1);
        good("byLaws(4)", x.byLaws(4), 1);
        good("cheapest(), wrong ahead of runs", x.cheapest(), 2);
    }

    static void promise33_ofThoseToldAlone() {
        open("thing c answers 2;master n plain;law runs;says n c 0;says n c 0");
        good("cheapest(), runs alone is told", x.cheapest(), 4);
        enter("thing c answers 2;master n plain;law pair;says n c 0;says n c 0");
        good("cheapest(), nothing is SURE by pair", x.cheapest(), 0);
    }

    static void promise33_withoutFacts() {
        open("thing c answers 2;master n plain;law runs;says n c 0;says n c 0;trial c cost 1");
        x.draw();
        x.tries(0);
        good("cheapest()", x.cheapest(), 4);
    }

    // ---- promise 34: years. "y (0 .. 40)", "v (0 .. 1,000,000)", "t (0 .. 100)", "NONE: 2."

    private static void onBothSides(Runnable test) {
        none();
        test.run();
        open("thing a answers 2");
        test.run();
    }

    static void promise34_vFrom0To1000000() {
        onBothSides(() -> {
            good("years(0, 100, 40)", x.years(0, 100, 40), 0);
            good("years(0, 0, 0)", x.years(0, 0, 0), 0);
            good("years(1000000, 0, 40)", x.years(1000000, 0, 40), 1000000);
            good("years(1000000, 100, 0)", x.years(1000000, 100, 0), 1000000);
            outside("years(#, 0, 0)", 1000001, 2, v -> x.years(v, 0, 0));
        });
    }

    static void promise34_tFrom0To100() {
        onBothSides(() -> {
            good("years(500000, 0, 1)", x.years(500000, 0, 1), 500000);
            good("years(500000, 1, 1)", x.years(500000, 1, 1), 502500);
            good("years(500000, 99, 1)", x.years(500000, 99, 1), 747500);
            good("years(500000, 100, 1)", x.years(500000, 100, 1), 750000);
            outside("years(0, #, 0)", 101, 2, t -> x.years(0, t, 0));
            outside("years(500000, #, 1)", 101, 2, t -> x.years(500000, t, 1));
        });
    }

    static void promise34_yFrom0To40() {
        onBothSides(() -> {
            good("years(77, 3, 0)", x.years(77, 3, 0), 77);
            good("years(500000, 100, 1)", x.years(500000, 100, 1), 750000);
            good("years(500000, 100, 2)", x.years(500000, 100, 2), 937500);
            good("years(500000, 1, 40)", x.years(500000, 1, 40), 598687);
            good("years(999999, 0, 40), one less each year", x.years(999999, 0, 40), 999959);
            outside("years(0, 0, #)", 41, 2, y -> x.years(0, 0, y));
        });
    }

    /** "v times v by 1,000,000, downwards, ..; of 2 times v times .. by 1,000,000, downwards, ..; half of the rest, downwards". */
    static void promise34_downwards() {
        none();
        good("years(999, 0, 1): 0.998 and half of 1,996.0..", x.years(999, 0, 1), 998);
        good("years(1000, 0, 1): 1 and half of 1,998", x.years(1000, 0, 1), 1000);
        good("years(1001, 0, 1): 1.002 and half of 1,999.99..", x.years(1001, 0, 1), 1000);
        good("years(1, 100, 1): of 1.99.. 1", x.years(1, 100, 1), 1);
        good("years(1, 99, 1): of 1 0.99 try, half of 1", x.years(1, 99, 1), 0);
        good("years(1, 0, 1): half of 1", x.years(1, 0, 1), 0);
        good("years(2, 100, 1): of 3.99.. 3", x.years(2, 100, 1), 3);
        good("years(2, 50, 1): of 3 1.5 try, half of 2", x.years(2, 50, 1), 2);
        good("years(2, 0, 1): half of 3", x.years(2, 0, 1), 1);
        good("years(999999, 0, 1): 999,998 and half of 1", x.years(999999, 0, 1), 999998);
        good("years(999999, 100, 1): 999,998 and 1", x.years(999999, 100, 1), 999999);
    }

    static void promise34_eachNumberAlone() {
        none();
        refused("years(-1, 101, 41)", x.years(-1, 101, 41), 2);
        refused("years(1000001, 100, 40)", x.years(1000001, 100, 40), 2);
        refused("years(1000000, 101, 40)", x.years(1000000, 101, 40), 2);
        refused("years(1000000, 100, 41)", x.years(1000000, 100, 41), 2);
        good("years(1000000, 100, 40)", x.years(1000000, 100, 40), 1000000);
    }

    // ---- promise 35: "The least t by which at least w (0 .. 1,000,000) know it then; -2. NONE: 2."

    static void promise35_vFrom0To1000000() {
        onBothSides(() -> {
            good("still(0, 40, 0)", x.still(0, 40, 0), 0);
            good("still(0, 40, 1)", x.still(0, 40, 1), -2);
            good("still(1000000, 40, 1000000)", x.still(1000000, 40, 1000000), 0);
            outside("still(#, 0, 0)", 1000001, 2, v -> x.still(v, 0, 0));
        });
    }

    static void promise35_yFrom0To40() {
        onBothSides(() -> {
            good("still(500000, 0, 500000)", x.still(500000, 0, 500000), 0);
            good("still(500000, 0, 500001)", x.still(500000, 0, 500001), -2);
            good("still(500000, 40, 598687)", x.still(500000, 40, 598687), 1);
            good("still(500000, 40, 598688)", x.still(500000, 40, 598688), 2);
            outside("still(0, #, 0)", 41, 2, y -> x.still(0, y, 0));
        });
    }

    static void promise35_wFrom0To1000000() {
        onBothSides(() -> {
            good("still(500000, 1, 0)", x.still(500000, 1, 0), 0);
            good("still(500000, 1, 1000000)", x.still(500000, 1, 1000000), -2);
            outside("still(0, 0, #)", 1000001, 2, w -> x.still(0, 0, w));
        });
    }

    static void promise35_theLeastT() {
        none();
        good("still(500000, 1, 500000)", x.still(500000, 1, 500000), 0);
        good("still(500000, 1, 500001)", x.still(500000, 1, 500001), 1);
        good("still(500000, 1, 502500)", x.still(500000, 1, 502500), 1);
        good("still(500000, 1, 502501)", x.still(500000, 1, 502501), 2);
        good("still(500000, 1, 747500)", x.still(500000, 1, 747500), 99);
        good("still(500000, 1, 747501)", x.still(500000, 1, 747501), 100);
        good("still(500000, 1, 750000)", x.still(500000, 1, 750000), 100);
        good("still(500000, 1, 750001)", x.still(500000, 1, 750001), -2);
        good("still(1, 40, 1)", x.still(1, 40, 1), 100);
        good("still(1, 40, 2)", x.still(1, 40, 2), -2);
    }

    public static void main(String[] args) {
        runAll(Bounds30To35Test.class, 30, 35);
    }
}
