import java.nio.charset.StandardCharsets;
import java.util.Arrays;
import java.util.NoSuchElementException;

/** Each promise by hand: ordinary inputs, the edges that the document names, and wrong inputs. */
public final class PromiseTest {
    private static final int NO = -1;
    private static int wrong = 0;
    private static int promise = 0;
    private static TwoMasters x;

    private static void due(String what, long got, long want) {
        if (got != want) {
            wrong++;
            System.out.println("promise " + promise + ": " + what + " answered " + got + ", due is " + want);
        }
    }

    /** An answer that isn't refused. */
    private static void good(String what, long got, long want) {
        due(what, got, want);
        due("trouble() after " + what, x.trouble(), 0);
    }

    private static void refused(String what, long got, int reason) {
        due(what, got, NO);
        due("trouble() after " + what, x.trouble(), reason);
    }

    private static void refused(String what, boolean got, int reason) {
        due(what, got ? 1 : 0, 0);
        due("trouble() after " + what, x.trouble(), reason);
    }

    private static void open(String text) {
        x = new TwoMasters();
        enter(text);
    }

    private static void enter(String text) {
        byte[] bytes = Arrays.copyOf(text.getBytes(StandardCharsets.ISO_8859_1), (text.length() + 19) / 20 * 20);
        for (int i = 0; i < bytes.length; i += 20) {
            int[] n = new int[5];
            for (int k = 0; k < 20; k++) {
                n[k / 4] = n[k / 4] << 8 | bytes[i + k] & 255;
            }
            x.feed(n[0], n[1], n[2], n[3], n[4]);
        }
        due("things of " + text, x.school(text.length()) > 0 ? 1 : 0, 1);
    }

    private static int led(int i) {
        try {
            return x.led(i);
        } catch (NoSuchElementException e) {
            return -9;
        }
    }

    /** x and y; x is 1 by p, 0 by q, so just one of them is right; y isn't 2. Worlds 0, 1, 3, 4. */
    private static final String PAIR = "thing x answers 2;thing y answers 3;master p plain;master q plain;"
        + "master e ever;law pair;says p x 1;says q x 0;says e y 2;child c hears p;child d hears e;"
        + "trial x cost 3;trial y cost 5";
    /** None is lawful behind the second saying. */
    private static final String CLASH = "thing a answers 2;thing b answers 3;master m ever;master n plain;"
        + "says m a 0;says m a 1;says n b 1;child c hears m;child d hears n;trial a cost 1;trial b cost 1";
    /** a's answer 0 leads to b's 1, and its 1 to b's 1 too: b is sure with no saying. */
    private static final String FOLLOWS = "thing a answers 2;thing b answers 2;thing c answers 4;"
        + "follows a 0,b 1;follows a 1,b 1;follows b 1,c 2";
    private static final String FREE = "thing a answers 2;thing b answers 3;thing c answers 4";

    private static void noSchool() {
        promise = 1;
        x = new TwoMasters();
        due("trouble()", x.trouble(), 0);
        due("fault()", x.fault(), 0);
        due("where()", x.where(), NO);
        for (int what = 0; what <= 11; what++) {
            due("size(" + what + ")", x.size(what), 0);
        }
        due("led(0)", led(0), -9);
        due("led(-1)", led(-1), -9);
        refused("ways()", x.ways(), 1);
        refused("worlds()", x.worlds(), 1);
        refused("world(0)", x.world(0), 1);
        refused("lawful(0)", x.lawful(0), 1);
        refused("culprit()", x.culprit(), 1);
        refused("sure(0)", x.sure(0), 1);
        refused("may(0)", x.may(0), 1);
        refused("likely(0, 0)", x.likely(0, 0, false), 1);
        refused("settled()", x.settled(), 1);
        refused("right(0)", x.right(0), 1);
        refused("wrongs(0)", x.wrongs(0, true), 1);
        refused("proof(0)", x.proof(0), 1);
        refused("proofBy(0)", x.proofBy(0), 1);
        refused("worst()", x.worst(), 1);
        refused("first()", x.first(), 1);
        refused("mean(false)", x.mean(false), 1);
        refused("meanFirst()", x.meanFirst(), 1);
        refused("left(0, 0)", x.left(0, 0), 1);
        refused("listen()", x.listen(), 1);
        refused("believes(0, 0)", x.believes(0, 0), 1);
        refused("knows(0)", x.knows(0), 1);
        refused("share(0)", x.share(0), 1);
        refused("share(-1)", x.share(-1), 1);
        refused("passes(0, 9, true)", x.passes(0, 9, true), 1);
        refused("agree(0, 1, true)", x.agree(0, 1, true), 1);
        refused("home(0)", x.home(0), 1);
        refused("bestHome()", x.bestHome(), 1);
        refused("byLaws(8)", x.byLaws(8), 1);
        refused("cheapest()", x.cheapest(), 1);
        refused("seed(-1)", x.seed(-1), 1);
        refused("draw()", x.draw(), 1);
        refused("tries(0)", x.tries(0), 1);
        refused("fact(0)", x.fact(0), 1);
        refused("spent()", x.spent(), 1);
        refused("mark()", x.mark(), 1);
        refused("back(0)", x.back(0), 1);
        refused("saying(0, 0)", x.saying(0, 0), 1);
        good("years(5, 5, 0)", x.years(5, 5, 0), 5);
        due("NONE", TwoMasters.NONE, -1);
    }

    private static void waysAndWorlds() {
        open(PAIR);
        promise = 6;
        good("ways()", x.ways(), 6);
        promise = 7;
        good("worlds()", x.worlds(), 4);
        promise = 8;
        good("world(0)", x.world(0), 0);
        good("world(1)", x.world(1), 1);
        good("world(2)", x.world(2), 3);
        good("world(3)", x.world(3), 4);
        refused("world(4)", x.world(4), 1);
        refused("world(-1)", x.world(-1), 1);
        refused("world(least)", x.world(Integer.MIN_VALUE), 1);
        refused("world(most)", x.world(Integer.MAX_VALUE), 1);
        promise = 9;
        int[] lawful = {1, 1, 0, 1, 1, 0};
        for (int way = 0; way < 6; way++) {
            good("lawful(" + way + ")", x.lawful(way), lawful[way]);
        }
        refused("lawful(6)", x.lawful(6), 1);
        refused("lawful(-1)", x.lawful(-1), 1);
        open("thing a answers 4;thing b answers 4;thing c answers 4;thing d answers 4;thing e answers 4;"
            + "thing f answers 4;master m ever;says m f 3");
        promise = 8;
        good("worlds() of 4,096 ways", x.worlds(), 3072);
        good("world(3071)", x.world(3071), 4094);
        good("world(3)", x.world(3), 4);
        good("lawful(4095)", x.lawful(4095), 0);
        refused("lawful(4096)", x.lawful(4096), 1);
        good("ways()", x.ways(), 4096);
    }

    private static void laws() {
        promise = 9;
        open("thing a answers 3;master m change;says m a 0;says m a 1;says m a 0");
        good("change: of 0, 1, 0", x.worlds(), 2);
        good("change: 2 is never right", x.lawful(2), 0);
        open("thing a answers 2;thing b answers 2;master m change;master n plain;says m a 0;says n a 0;says m b 0");
        good("change: of his, one behind the other", x.worlds(), 2);
        good("change: a 0, b 1", x.lawful(1), 1);
        good("change: a 1, b 0", x.lawful(2), 1);
        open("thing a answers 3;master m plain;master n blind;master o plain;law pair;says m a 0;says n a 1;says o a 1");
        good("pair: blind ones don't count", x.worlds(), 2);
        good("pair: neither is right", x.lawful(2), 0);
        open("thing a answers 3;master m plain;master n ever;master o plain;law pair;says m a 0;says n a 1;says o a 1");
        good("pair: three aren't two", x.worlds(), 2);
        good("pair: three aren't two, ever", x.lawful(1), 0);
        open("thing a answers 3;master m plain;master o plain;law pair;says m a 0;says m a 1;says o a 1;says o a 1");
        good("pair: all of the one right", x.worlds(), 0);
        open("thing a answers 3;master m plain;master o plain;law pair;says m a 0;says m a 2;says o a 1;says o a 1");
        good("pair: all of the one wrong", x.world(0), 1);
        open("thing a answers 2;thing b answers 2;master m plain;law wrong 1;says m a 0;says m a 0;says m b 0");
        good("wrong: in THINGS, not in sayings", x.worlds(), 3);
        good("wrong: in both", x.lawful(3), 0);
        open("thing a answers 2;master m plain;master n change;master e ever;law wrong 0;says m a 0;says e a 1;says n a 1");
        good("wrong: of plain ones alone", x.worlds(), 1);
        good("wrong: the world", x.world(0), 0);
        open("thing a answers 2;thing b answers 2;master m plain;master n plain;law runs;says m a 0;says n b 0;says m b 0");
        good("runs: of his", x.worlds(), 3);
        good("runs: two behind one another", x.lawful(3), 0);
        open("thing a answers 2;thing b answers 2;master m blind;law runs;law wrong 0;says m a 0;says m b 0");
        good("blind ones say anything", x.worlds(), 4);
        open(FOLLOWS);
        good("follows: two", x.worlds(), 2);
        good("follows: the first", x.world(0), 6);
        good("follows: the second", x.world(1), 14);
    }

    private static void culprits() {
        promise = 10;
        open(PAIR);
        good("culprit()", x.culprit(), -2);
        open(CLASH);
        good("culprit()", x.culprit(), 1);
        open("thing a answers 2;master m plain;master n plain;master o plain;law pair;says m a 0;says n a 0;says o a 0");
        good("worlds(), three say so", x.worlds(), 2);
        good("culprit(), with those ahead alone", x.culprit(), 1);
        String never = "thing a answers 2;thing b answers 2;follows a 0,b 0;follows a 0,b 1;follows a 1,b 0;"
            + "follows a 1,b 1";
        open(never);
        good("worlds()", x.worlds(), 0);
        good("culprit() without sayings", x.culprit(), -2);
        open(never + ";master m blind;says m a 0;says m a 1");
        good("culprit() with some", x.culprit(), 0);
    }

    private static void sureAndLikely() {
        open(PAIR);
        promise = 11;
        good("sure(0)", x.sure(0), -2);
        refused("sure(2)", x.sure(2), 1);
        refused("sure(-1)", x.sure(-1), 1);
        promise = 12;
        good("may(0)", x.may(0), 3);
        good("may(1)", x.may(1), 3);
        refused("may(2)", x.may(2), 1);
        refused("may(-1)", x.may(-1), 1);
        promise = 13;
        good("likely(1, 1, false)", x.likely(1, 1, false), 1);
        good("likely(1, 1, true)", x.likely(1, 1, true), 2);
        good("likely(1, 2, false)", x.likely(1, 2, false), 0);
        good("likely(1, 2, true)", x.likely(1, 2, true), 1);
        refused("likely(0, 2, true)", x.likely(0, 2, true), 1);
        refused("likely(0, -1, true)", x.likely(0, -1, true), 1);
        refused("likely(-1, 0, true)", x.likely(-1, 0, true), 1);
        refused("likely(2, 0, true)", x.likely(2, 0, true), 1);
        promise = 14;
        good("settled()", x.settled(), 0);
        promise = 15;
        good("right(0)", x.right(0), -2);
        good("right(2)", x.right(2), 0);
        refused("right(3)", x.right(3), 1);
        refused("right(-1)", x.right(-1), 1);
        promise = 16;
        good("wrongs(0, false)", x.wrongs(0, false), 1);
        good("wrongs(0, true)", x.wrongs(0, true), 0);
        good("wrongs(2, false)", x.wrongs(2, false), 1);
        refused("wrongs(3, false)", x.wrongs(3, false), 1);
        refused("wrongs(-1, true)", x.wrongs(-1, true), 1);
        open(FOLLOWS + ";master m blind;master n plain;says m b 1;says m c 0;says m c 1;says m a 0");
        promise = 11;
        good("sure(1)", x.sure(1), 1);
        good("sure(2)", x.sure(2), 2);
        promise = 14;
        good("settled()", x.settled(), 6);
        promise = 15;
        good("right(0)", x.right(0), 1);
        promise = 16;
        good("wrongs(0, false), c but once", x.wrongs(0, false), 2);
        good("wrongs(0, true)", x.wrongs(0, true), 1);
        good("wrongs(1, false), who says nothing", x.wrongs(1, false), 0);
        String eight = "";
        String said = "";
        for (char c = 'a'; c < 'i'; c++) {
            eight += "thing " + c + " answers 2;";
            said += ";says m " + c + " 1";
        }
        open(eight + "master m ever" + said);
        good("wrongs(0, true) in eight", x.wrongs(0, true), 8);
        good("wrongs(0, false) in eight", x.wrongs(0, false), 8);
    }

    private static void withoutWorlds() {
        open(CLASH);
        promise = 7;
        good("worlds()", x.worlds(), 0);
        promise = 8;
        refused("world(0)", x.world(0), 1);
        promise = 11;
        refused("sure(0)", x.sure(0), 6);
        refused("sure(2)", x.sure(2), 1);
        promise = 12;
        good("may(0)", x.may(0), 0);
        promise = 13;
        refused("likely(0, 0, true)", x.likely(0, 0, true), 6);
        refused("likely(0, 2, true)", x.likely(0, 2, true), 1);
        promise = 14;
        refused("settled()", x.settled(), 6);
        promise = 15;
        refused("right(0)", x.right(0), 6);
        refused("right(3)", x.right(3), 1);
        promise = 16;
        refused("wrongs(0, true)", x.wrongs(0, true), 6);
        refused("wrongs(2, true)", x.wrongs(2, true), 1);
        promise = 17;
        good("proof(0), by the first saying alone", x.proof(0), 1);
        promise = 18;
        good("proofBy(0)", x.proofBy(0), 1);
        promise = 19;
        refused("worst()", x.worst(), 6);
        promise = 20;
        refused("first()", x.first(), 6);
        promise = 21;
        refused("mean(true)", x.mean(true), 6);
        promise = 22;
        refused("meanFirst()", x.meanFirst(), 6);
        promise = 23;
        good("left(0, 1), none can be", x.left(0, 1), 0);
        refused("left(0, 0)", x.left(0, 0), 5);
        promise = 24;
        good("listen()", x.listen(), 1);
        promise = 25;
        good("believes(0, 0)", x.believes(0, 0), -2);
        good("believes(1, 1)", x.believes(1, 1), 0);
        promise = 26;
        good("knows(0)", x.knows(0), 0);
        promise = 27;
        good("share(3)", x.share(3), 0);
        promise = 28;
        refused("passes(0, 0, true)", x.passes(0, 0, true), 6);
        refused("passes(0, 9, true)", x.passes(0, 9, true), 2);
        promise = 30;
        refused("home(0)", x.home(0), 6);
        refused("home(2)", x.home(2), 1);
        promise = 31;
        refused("bestHome()", x.bestHome(), 6);
        promise = 32;
        refused("byLaws(0)", x.byLaws(0), 6);
        refused("byLaws(8)", x.byLaws(8), 2);
        promise = 33;
        refused("cheapest()", x.cheapest(), 6);
        promise = 37;
        x.seed(5);
        refused("draw()", x.draw(), 6);
        due("SEED stays", x.size(8), 5);
        due("no WAY is hidden", x.size(10), 0);
        promise = 38;
        refused("tries(0)", x.tries(0), 6);
        promise = 44;
        due("led(0), none is SURE", led(0), 0);
        due("led(1)", led(1), 1);
        due("led(2)", led(2), -9);
    }

    private static void proofs() {
        promise = 17;
        open(FOLLOWS);
        good("proof(1), by none", x.proof(1), 0);
        good("proof(0)", x.proof(0), -2);
        refused("proof(3)", x.proof(3), 1);
        refused("proof(-1)", x.proof(-1), 1);
        promise = 18;
        good("proofBy(1)", x.proofBy(1), 0);
        good("proofBy(0)", x.proofBy(0), -2);
        refused("proofBy(3)", x.proofBy(3), 1);
        refused("proofBy(-1)", x.proofBy(-1), 1);
        open("thing a answers 4;master m ever;says m a 0;says m a 0;says m a 1;says m a 2;says m a 1");
        promise = 17;
        good("proof(0), by three", x.proof(0), 3);
        promise = 18;
        good("proofBy(0), the least bits", x.proofBy(0), 1 + 4 + 8);
        good("proofBy(0) again", x.proofBy(0), 13);
        enter("thing a answers 2;thing b answers 2;master m blind;master e ever;says m a 0;says e b 1;says e a 1;says e a 1");
        good("proofBy(0) of a new school", x.proofBy(0), 4);
        good("proofBy(1) of a new school", x.proofBy(1), 2);
        enter("thing a answers 2;thing b answers 2;thing c answers 2;thing d answers 2;thing e answers 2;"
            + "master m change;says m a 0;says m b 0;says m c 0;says m d 0;says m a 0");
        promise = 17;
        good("proof(0), never", x.proof(0), -2);
        promise = 18;
        good("proofBy(0), never", x.proofBy(0), -2);
    }

    private static void plans() {
        open(PAIR);
        promise = 19;
        good("worst()", x.worst(), 8);
        promise = 20;
        good("first(), the first such", x.first(), 0);
        promise = 21;
        good("mean(false)", x.mean(false), 8);
        good("mean(true)", x.mean(true), 1);
        promise = 22;
        good("meanFirst()", x.meanFirst(), 0);
        // a tells all but of its answer 3, and then b does; by b first both are needed but for its 1
        open("thing a answers 4;thing b answers 2;follows a 0,b 0;follows a 1,b 0;follows a 2,b 0;"
            + "trial b cost 2;trial a cost 3");
        promise = 7;
        good("worlds()", x.worlds(), 5);
        promise = 19;
        good("worst()", x.worst(), 5);
        promise = 20;
        good("first()", x.first(), 0);
        promise = 21;
        good("mean(false): 3 times 5 and 2 times 2, by 5", x.mean(false), 19);
        good("mean(true)", x.mean(true), 5);
        promise = 22;
        good("meanFirst()", x.meanFirst(), 0);
        open("thing a answers 2;thing b answers 2;thing c answers 2;follows a 0,c 0;follows a 1,c 1;"
            + "trial a cost 9;trial b cost 4;trial c cost 8");
        promise = 19;
        good("worst(), the cheaper of two alike", x.worst(), 12);
        promise = 20;
        good("first()", x.first(), 1);
        promise = 22;
        good("meanFirst()", x.meanFirst(), 1);
        open("thing a answers 2;thing b answers 2;trial a cost 4");
        promise = 19;
        good("worst(), trials can't", x.worst(), -2);
        promise = 20;
        refused("first()", x.first(), 5);
        promise = 21;
        refused("mean(false)", x.mean(false), 5);
        refused("mean(true)", x.mean(true), 5);
        promise = 22;
        refused("meanFirst()", x.meanFirst(), 5);
        open("thing a answers 2;master m ever;says m a 0");
        promise = 19;
        good("worst() of one world", x.worst(), 0);
        promise = 20;
        good("first(), none needs be", x.first(), -2);
        promise = 21;
        good("mean(false)", x.mean(false), 0);
        good("mean(true)", x.mean(true), 1);
        promise = 22;
        good("meanFirst()", x.meanFirst(), -2);
    }

    /** The greatest number of states that plans may have. */
    private static void greatPlans() {
        StringBuilder text = new StringBuilder();
        int[] answers = {4, 2, 4, 2, 4, 2, 4, 2};
        for (int t = 0; t < 8; t++) {
            text.append("thing ").append((char) ('a' + t)).append(" answers ").append(answers[t]).append(";");
        }
        for (int t = 0; t < 8; t++) {
            text.append(t == 0 ? "" : ";").append("trial ").append((char) ('a' + t)).append(" cost 99");
        }
        open(text.toString());
        promise = 19;
        good("ways()", x.ways(), 4096);
        good("worst()", x.worst(), 792);
        good("first()", x.first(), 0);
        promise = 21;
        good("mean(false)", x.mean(false), 792);
        good("mean(true)", x.mean(true), 1);
        good("draw()", x.draw(), 4096);
        int way = 74;
        good("tries(7)", x.tries(7), way % 2);
        good("worst()", x.worst(), 693);
        good("tries(6)", x.tries(6), way / 2 % 4);
        good("worst()", x.worst(), 594);
    }

    private static void lessons() {
        open(PAIR);
        promise = 23;
        good("left(0, 1)", x.left(0, 1), 2);
        good("left(2, 0)", x.left(2, 0), 2);
        refused("left(0, 0)", x.left(0, 0), 5);
        refused("left(3, 0)", x.left(3, 0), 1);
        refused("left(-1, 0)", x.left(-1, 0), 1);
        refused("left(0, 2)", x.left(0, 2), 1);
        refused("left(0, -1)", x.left(0, -1), 1);
        promise = 24;
        good("listen()", x.listen(), 1);
        promise = 23;
        due("sayings stay as told", x.size(2), 3);
        open("thing a answers 2;thing b answers 4;master m blind;master n plain;master e ever;master c change;"
            + "trial b cost 1");
        promise = 23;
        refused("left(0, 0) of a blind one", x.left(0, 0), 5);
        good("left(1, 0)", x.left(1, 0), 8);
        good("left(2, 0)", x.left(2, 0), 4);
        good("left(2, 1)", x.left(2, 1), 6);
        good("left(3, 1)", x.left(3, 1), 8);
        promise = 24;
        good("listen()", x.listen(), 16);
        x.draw();
        x.tries(1);
        promise = 23;
        good("left(2, 0) by FACTS", x.left(2, 0), 1);
        good("left(2, 1) by FACTS", x.left(2, 1), 2);
        open("thing a answers 2;master m blind");
        promise = 24;
        refused("listen() to none", x.listen(), 6);
        StringBuilder text = new StringBuilder("thing a answers 2;thing b answers 2;master m plain;master c change");
        for (int i = 0; i < 16; i++) {
            text.append(i < 15 ? ";says m a 0" : ";says c a 0");
        }
        open(text.toString());
        promise = 23;
        good("left(1, 1), a seventeenth saying", x.left(1, 1), 2);
        good("left(0, 1)", x.left(0, 1), 4);
        promise = 24;
        good("listen()", x.listen(), 9);
        good("worlds() stay", x.worlds(), 4);
        open("thing a answers 2;master m plain;master n plain;master o plain;law pair;says m a 0;says n a 0");
        promise = 23;
        good("worlds()", x.worlds(), 0);
        good("left(2, 0), with a third there are WORLDS", x.left(2, 0), 2);
    }

    private static void children() {
        open("thing a answers 3;thing b answers 2;master e ever;master m plain;master n plain;law wrong 0;"
            + "says e a 0;says m b 1;says n a 2;says e a 2;child c hears e;child d hears m,e;child f hears n;"
            + "child g hears e,n");
        promise = 25;
        good("believes(0, 0)", x.believes(0, 0), 1);
        good("believes(0, 1), the least of like ones", x.believes(0, 1), 0);
        good("believes(1, 1)", x.believes(1, 1), 1);
        good("believes(2, 0)", x.believes(2, 0), 2);
        good("believes(3, 0), none is LAWFUL", x.believes(3, 0), -2);
        refused("believes(4, 0)", x.believes(4, 0), 1);
        refused("believes(-1, 0)", x.believes(-1, 0), 1);
        refused("believes(0, 2)", x.believes(0, 2), 1);
        refused("believes(0, -1)", x.believes(0, -1), 1);
        promise = 26;
        good("knows(0)", x.knows(0), 1);
        good("knows(1)", x.knows(1), 3);
        good("knows(2)", x.knows(2), 1);
        good("knows(3)", x.knows(3), 0);
        refused("knows(4)", x.knows(4), 1);
        refused("knows(-1)", x.knows(-1), 1);
        promise = 27;
        good("share(0)", x.share(0), 0);
        good("share(13)", x.share(13), 1);
        good("share(15)", x.share(15), 3);
        refused("share(16)", x.share(16), 2);
        refused("share(-1)", x.share(-1), 2);
        refused("share(least)", x.share(Integer.MIN_VALUE), 2);
        open(PAIR);
        promise = 28;
        good("passes(0, 1, false)", x.passes(0, 1, false), 3);
        good("passes(0, 1, true)", x.passes(0, 1, true), 4);
        good("passes(0, 2, false)", x.passes(0, 2, false), 1);
        good("passes(0, 3, false)", x.passes(0, 3, false), 0);
        good("passes(0, 8, true)", x.passes(0, 8, true), 1);
        good("passes(0, 0, false)", x.passes(0, 0, false), 1);
        refused("passes(0, 9, true)", x.passes(0, 9, true), 2);
        refused("passes(0, -1, true)", x.passes(0, -1, true), 2);
        refused("passes(2, 9, true)", x.passes(2, 9, true), 1);
        refused("passes(-1, 0, true)", x.passes(-1, 0, true), 1);
    }

    private static void agreement() {
        open("thing a answers 2;thing b answers 2;thing c answers 2;thing d answers 2;master m plain;master n blind;"
            + "says m a 0;says m a 1;says n a 0;says m b 1;says n b 0;says n b 1;says m c 0;says n d 0");
        promise = 29;
        good("agree(0, 1, true)", x.agree(0, 1, true), 1);
        good("agree(0, 1, false)", x.agree(0, 1, false), 2);
        good("agree(1, 0, true)", x.agree(1, 0, true), 1);
        refused("agree(0, 0, true)", x.agree(0, 0, true), 1);
        refused("agree(0, 2, true)", x.agree(0, 2, true), 1);
        refused("agree(-1, 0, true)", x.agree(-1, 0, true), 1);
        refused("agree(2, 2, true)", x.agree(2, 2, true), 1);
    }

    private static void homes() {
        open("thing a answers 3;thing b answers 2;thing c answers 2;follows a 0,b 0;follows a 0,c 0;follows a 1,b 1;"
            + "follows b 0,c 0");
        // worlds: a 0: 000; a 1: 110, 111; a 2: 200, 210, 211
        promise = 30;
        good("worlds()", x.worlds(), 6);
        good("home(0)", x.home(0), 1);
        good("home(1), by 1: b alone", x.home(1), 1);
        good("home(2), by 1: b and c; by 0: c alone", x.home(2), 1);
        refused("home(3)", x.home(3), 1);
        refused("home(-1)", x.home(-1), 1);
        promise = 31;
        good("bestHome()", x.bestHome(), 0);
        open("thing a answers 2;thing b answers 2;thing c answers 2;follows b 0,c 0;follows b 1,c 1");
        promise = 30;
        good("home(0)", x.home(0), 1);
        good("home(1)", x.home(1), 2);
        good("home(2)", x.home(2), 2);
        promise = 31;
        good("bestHome(), the first such", x.bestHome(), 1);
    }

    private static void lawSets() {
        open("thing a answers 2;thing b answers 2;thing c answers 2;master m plain;master k change;law runs;"
            + "law wrong 1;says m a 1;says m b 1;says m c 1;says k a 0;says k b 0;follows a 1,c 0");
        promise = 32;
        good("byLaws(6)", x.byLaws(6), 3);
        good("byLaws(7), pair isn't told", x.byLaws(7), 3);
        good("byLaws(4)", x.byLaws(4), 2);
        good("byLaws(2)", x.byLaws(2), 3);
        good("byLaws(1)", x.byLaws(1), 0);
        refused("byLaws(8)", x.byLaws(8), 2);
        refused("byLaws(-1)", x.byLaws(-1), 2);
        promise = 33;
        good("cheapest()", x.cheapest(), 2);
        open("thing a answers 2;thing b answers 2;master m plain;law wrong 0;law runs;law pair;trial b cost 2;"
            + "says m a 0;says m a 1");
        promise = 32;
        refused("byLaws(2), none is LAWFUL", x.byLaws(2), 6);
        good("byLaws(5)", x.byLaws(5), 0);
        promise = 33;
        refused("cheapest()", x.cheapest(), 6);
        // both pair and wrong make a sure; of like ones the least
        open("thing a answers 2;thing b answers 2;master m plain;master e ever;law wrong 0;law pair;trial b cost 2;"
            + "says m a 0;says e b 1");
        promise = 33;
        good("cheapest()", x.cheapest(), 2);
        promise = 32;
        good("byLaws(1)", x.byLaws(1), 1);
        x.draw();
        x.tries(1);
        good("byLaws(0), without FACTS", x.byLaws(0), 1);
        open("thing a answers 2;master m plain;master n ever;law runs;law pair;law wrong 1;says m a 0;says m a 0");
        promise = 33;
        good("cheapest(), runs alone does it", x.cheapest(), 4);
        open("thing a answers 2");
        good("cheapest(), no law", x.cheapest(), 0);
    }

    private static void manyYears() {
        x = new TwoMasters();
        promise = 34;
        good("years(500000, 0, 1)", x.years(500000, 0, 1), 500000);
        good("years(500000, 100, 1)", x.years(500000, 100, 1), 750000);
        good("years(500000, 100, 2)", x.years(500000, 100, 2), 937500);
        good("years(1, 100, 1): of 1.999998 one", x.years(1, 100, 1), 1);
        good("years(1, 99, 1): of one none tries, half of one is none", x.years(1, 99, 1), 0);
        good("years(1000, 0, 1): 1, and half of 1,998", x.years(1000, 0, 1), 1000);
        good("years(999, 50, 1): 0, 998, half of 998", x.years(999, 50, 1), 1497);
        good("years(1000000, 0, 40)", x.years(1000000, 0, 40), 1000000);
        good("years(0, 100, 40)", x.years(0, 100, 40), 0);
        good("years(77, 3, 0)", x.years(77, 3, 0), 77);
        refused("years(-1, 0, 0)", x.years(-1, 0, 0), 2);
        refused("years(1000001, 0, 0)", x.years(1000001, 0, 0), 2);
        refused("years(0, -1, 0)", x.years(0, -1, 0), 2);
        refused("years(0, 101, 0)", x.years(0, 101, 0), 2);
        refused("years(0, 0, -1)", x.years(0, 0, -1), 2);
        refused("years(0, 0, 41)", x.years(0, 0, 41), 2);
        promise = 35;
        good("still(500000, 1, 700000)", x.still(500000, 1, 700000), 80);
        good("still(500000, 1, 700001)", x.still(500000, 1, 700001), 81);
        good("still(500000, 1, 750000)", x.still(500000, 1, 750000), 100);
        good("still(500000, 1, 750001)", x.still(500000, 1, 750001), -2);
        good("still(0, 40, 0)", x.still(0, 40, 0), 0);
        good("still(5, 0, 6)", x.still(5, 0, 6), -2);
        refused("still(-1, 0, 0)", x.still(-1, 0, 0), 2);
        refused("still(1000001, 0, 0)", x.still(1000001, 0, 0), 2);
        refused("still(0, -1, 0)", x.still(0, -1, 0), 2);
        refused("still(0, 41, 0)", x.still(0, 41, 0), 2);
        refused("still(0, 0, -1)", x.still(0, 0, -1), 2);
        refused("still(0, 0, 1000001)", x.still(0, 0, 1000001), 2);
    }

    private static void term() {
        open(PAIR);
        promise = 36;
        due("seed(65536)", x.seed(65536) ? 1 : 0, 1);
        due("trouble()", x.trouble(), 0);
        due("size(8)", x.size(8), 65536);
        refused("seed(65537)", x.seed(65537), 2);
        refused("seed(-1)", x.seed(-1), 2);
        due("size(8) stays", x.size(8), 65536);
        promise = 38;
        refused("tries(0), none is hidden", x.tries(0), 6);
        promise = 37;
        good("draw()", x.draw(), 4);
        due("75 times -1 and 74", x.size(8), 65536);
        due("size(10)", x.size(10), 1);
        promise = 38;
        good("tries(0): 65,536 mod 4 is 0", x.tries(0), 0);
        refused("tries(0), a FACT", x.tries(0), 5);
        refused("tries(2)", x.tries(2), 1);
        refused("tries(-1)", x.tries(-1), 1);
        promise = 39;
        good("fact(0)", x.fact(0), 0);
        good("fact(1)", x.fact(1), -2);
        refused("fact(2)", x.fact(2), 1);
        refused("fact(-1)", x.fact(-1), 1);
        promise = 40;
        good("spent()", x.spent(), 3);
        promise = 41;
        good("mark()", x.mark(), 0);
        promise = 37;
        x.seed(0);
        good("draw(), WORLDS without FACTS", x.draw(), 4);
        good("no FACTS", x.fact(0), -2);
        good("no costs", x.spent(), 0);
        good("worlds()", x.worlds(), 4);
        good("tries(1): 74 mod 4 is 2, of 0, 1, 3, 4", x.tries(1), 0);
        good("tries(0)", x.tries(0), 1);
        good("spent()", x.spent(), 8);
        promise = 41;
        good("mark()", x.mark(), 1);
        good("mark()", x.mark(), 2);
        refused("mark(), no room", x.mark(), 3);
        due("size(9)", x.size(9), 3);
        promise = 42;
        due("back(0)", x.back(0) ? 1 : 0, 1);
        due("trouble()", x.trouble(), 0);
        due("SEED", x.size(8), 65536);
        due("MARKS stay", x.size(9), 3);
        good("fact(0)", x.fact(0), 0);
        good("fact(1)", x.fact(1), -2);
        good("spent()", x.spent(), 3);
        good("worlds()", x.worlds(), 2);
        good("world(1)", x.world(1), 1);
        good("tries(1) by the old hidden WAY", x.tries(1), 0);
        due("back(2)", x.back(2) ? 1 : 0, 1);
        good("world(0)", x.world(0), 3);
        refused("back(3)", x.back(3), 1);
        refused("back(-1)", x.back(-1), 1);
        enter(PAIR);
        refused("back(0) in a new school", x.back(0), 1);
        due("no WAY is hidden", x.size(10), 0);
    }

    private static void withoutTrial() {
        open("thing a answers 2;thing b answers 2;trial b cost 7");
        promise = 38;
        refused("tries(0), no trial ahead of no hidden WAY", x.tries(0), 5);
        refused("tries(1)", x.tries(1), 6);
        x.mark();
        x.draw();
        good("tries(1)", x.tries(1), 0);
        promise = 42;
        due("back(0)", x.back(0) ? 1 : 0, 1);
        due("no WAY is hidden", x.size(10), 0);
        due("SEED", x.size(8), 0);
        good("worlds()", x.worlds(), 4);
        good("worst()", x.worst(), -2);
    }

    private static void seen() {
        open(PAIR);
        promise = 43;
        int[][] sayings = {{0, 0, 1}, {1, 0, 0}, {2, 1, 2}};
        for (int i = 0; i < 3; i++) {
            for (int what = 0; what < 3; what++) {
                good("saying(" + i + ", " + what + ")", x.saying(i, what), sayings[i][what]);
            }
        }
        refused("saying(3, 0)", x.saying(3, 0), 1);
        refused("saying(-1, 0)", x.saying(-1, 0), 1);
        refused("saying(0, 3)", x.saying(0, 3), 1);
        refused("saying(0, -1)", x.saying(0, -1), 1);
        promise = 44;
        due("led(0)", led(0), 0);
        due("led(1)", led(1), 1);
        due("led(2)", led(2), -9);
        due("led(-1)", led(-1), -9);
        due("led(least)", led(Integer.MIN_VALUE), -9);
        due("trouble() is of saying()", x.trouble(), 1);
        promise = 45;
        int[] sizes = {2, 3, 3, 2, 2, 0, 1, -2, 0, 0, 0, 0};
        for (int what = 0; what < sizes.length; what++) {
            due("size(" + what + ")", x.size(what), sizes[what]);
        }
        due("size(12)", x.size(12), NO);
        due("size(-1)", x.size(-1), NO);
        due("trouble() is of saying()", x.trouble(), 1);
        x.feed(0, 0, 0, 0, 0);
        due("size(11)", x.size(11), 20);
        promise = 46;
        due("trouble(), feed tells no number", x.trouble(), 1);
        good("ways()", x.ways(), 6);
        refused("school(20) of a tape of no text", x.school(20), 4);
        enter(FREE + ";law wrong 0");
        promise = 45;
        due("size(7)", x.size(7), 0);
        due("size(6)", x.size(6), 2);
    }

    public static void main(String[] args) {
        noSchool();
        waysAndWorlds();
        laws();
        culprits();
        sureAndLikely();
        withoutWorlds();
        proofs();
        plans();
        greatPlans();
        lessons();
        children();
        agreement();
        homes();
        lawSets();
        manyYears();
        term();
        withoutTrial();
        seen();
        System.out.println(wrong == 0 ? "all answers are as due" : wrong + " answers are not as due");
        if (wrong != 0) {
            System.exit(1);
        }
    }
}
