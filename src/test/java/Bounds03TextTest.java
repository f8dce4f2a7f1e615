/**
 * Boundary cases of promise 3 by the terms I, the text of a SCHOOL: each limit from both sides, each
 * FAULT and its place, on an object without SCHOOL and on one that has another.
 */
public final class Bounds03TextTest extends Desk {
    private static final String A = "thing a answers 2;";
    private static final String AB = "thing a answers 2;thing b answers 4;";
    private static final String ABM = AB + "master m plain;";
    private static final String MANY = lines("master m# plain", 6) + ";";

    private static void sound(int things, String text) {
        none();
        soundHere(things, text);
        open("thing old answers 3;master m ever;says m old 0");
        soundHere(things, text);
    }

    private static void soundHere(int things, String text) {
        good("school of " + text, tell(text), things);
        due("size(0) of " + text, x.size(0), things);
        due("fault() of " + text, x.fault(), 0);
        due("where() of " + text, x.where(), -1);
    }

    /** The | in a text, which is left out, tells the place of the FAULT. */
    private static void faulty(int fault, String marked) {
        none();
        faultyHere(fault, marked, 0);
        open("thing old answers 3;law runs");
        faultyHere(fault, marked, 1);
        due("size(6), the SCHOOL stays: " + marked, x.size(6), 4);
        good("ways(), the SCHOOL stays: " + marked, x.ways(), 3);
    }

    private static void faultyHere(int fault, String marked, int things) {
        int place = marked.indexOf('|');
        refused("school of " + marked, tell(marked.substring(0, place) + marked.substring(place + 1)), 4);
        due("fault() of " + marked, x.fault(), fault);
        due("where() of " + marked, x.where(), place);
        due("size(0) behind " + marked, x.size(0), things);
        due("size(11) behind " + marked, x.size(11), 0);
    }

    // ---- "blanks, 32, part TOKENS and mean nothing else"

    static void promise03_blanksMeanNothingElse() {
        sound(1, "   thing   a   answers   2   ");
        sound(1, "law pair  ;  law wrong   8;thing a answers 2 ");
        sound(1, "thing a answers2");
        sound(2, AB + "follows a0,b3;follows b 3 , a 1");
        sound(2, ABM + "says m a0;says m b   3;child c hears m ");
    }

    static void promise03_whereTokensWouldGrowTogetherABlankMustPartThem() {
        faulty(1, "|thinga answers 2");
        faulty(1, "thing aanswers |2");
        faulty(1, ABM + "|saysm a 0");
        faulty(2, ABM + "says |ma 0");
        faulty(1, "thing a answers 2|a");
        sound(1, A + "trial a cost 10");
        faulty(1, A + "trial a cost 1 |0");
    }

    static void promise03_onlyByte32IsABlank() {
        for (char c : new char[] {0, 9, 10, 13, 31, 33, 127, 160, 255}) {
            faulty(1, "thing|" + c + "a answers 2");
            faulty(1, "|" + c + "thing a answers 2");
            faulty(1, "thing a answers 2|" + c);
        }
    }

    // ---- "WORDS of 1 to 8 small letters that stand together"

    static void promise03_wordsOf1To8Letters() {
        sound(1, "thing z answers 2");
        sound(1, "thing abcdefgh answers 2");
        faulty(1, "thing |abcdefghi answers 2");
        faulty(1, "thing |zzzzzzzzzzzzzzzzzzzzzzzzzzzzzzzzz answers 2");
        faulty(1, "|thingthing a answers 2");
        faulty(1, ABM + "says |abcdefghi a 0");
        faulty(1, "thing abcdefgh |answersss 2");
        sound(2, "thing abcdefgh answers 2;thing abcdefgi answers 2");
        sound(2, "thing abcdefgh answers 2;thing abcdefg answers 2");
        sound(2, "thing abcdefgh answers 2;thing bcdefgh answers 2");
        faulty(3, "thing abcdefgh answers 2;thing |abcdefgh answers 2");
        faulty(2, "thing abcdefgh answers 2;trial |bcdefgh cost 2");
    }

    static void promise03_lettersFromAToZ() {
        sound(1, "thing azaz answers 2");
        for (char c : new char[] {'`', '{', 'A', 'Z', '@', '[', '_', '-', '.', 225, 250}) {
            faulty(1, "thing |" + c + " answers 2");
            faulty(1, "thing a|" + c + " answers 2");
        }
    }

    // ---- "WHOLES of 1 to 3 digits that do", "single ones of ; ,"

    static void promise03_wholesOf1To3Digits() {
        sound(1, "thing a answers 2");
        sound(1, "thing a answers 02");
        sound(1, "thing a answers 002");
        faulty(1, "thing a answers |0002");
        sound(1, "thing a answers 4;law wrong 008;trial a cost 099");
        faulty(1, A + "law wrong |0008");
        faulty(4, A + "law wrong |999");
        faulty(1, A + "law wrong |1000");
        faulty(1, A + "law wrong |4294967296");
        faulty(1, "thing a answers |99999999999999999999");
    }

    static void promise03_digitsFrom0To9() {
        sound(1, "thing a answers 2;trial a cost 90");
        sound(1, "thing a answers 2;trial a cost 19");
        faulty(1, "thing a answers |/2");
        faulty(1, "thing a answers |:");
        faulty(1, "thing a answers 2|/");
        faulty(1, "thing a answers 2|:");
        faulty(1, "thing a answers |-2");
        faulty(1, "thing a answers |+2");
    }

    static void promise03_signsAreSingle() {
        faulty(1, A + "|;law pair");
        faulty(1, A + " |; law pair");
        faulty(1, ABM + "child c hears m,|,m");
        faulty(1, AB + "follows a 0,|,b 0");
    }

    // ---- "LINE {; LINE}"

    static void promise03_oneLineAtLeastAndNoneEmpty() {
        faulty(1, "|");
        faulty(1, "    |");
        faulty(1, "|;");
        faulty(1, "|;thing a answers 2");
        faulty(1, "thing a answers 2;|");
        faulty(1, "thing a answers 2;  |");
        faulty(1, "thing a answers 2|,law pair");
        faulty(1, "thing a answers 2 |law pair");
        sound(1, "thing a answers 2");
        sound(1, "thing a answers 2;law pair");
    }

    /** More LINES than any sort has room for alone: 3 laws, 8 things, 6 follows, 6 masters, 16, 5, 8. */
    static void promise03_asManyLinesAsThereIsRoomFor() {
        String text = "law pair;law runs;law wrong 0;" + lines("thing # answers 2", 8) + ";"
            + lines("follows a 0,b 0", 6) + ";" + lines("master m# ever", 6) + ";" + lines("says ma a 0", 16) + ";"
            + lines("child c# hears ma", 5) + ";" + lines("trial # cost 1", 8);
        none();
        good("school of all", tell(text), 8);
        int[] sizes = {8, 6, 16, 5, 8, 6, 7, 0};
        for (int what = 0; what < sizes.length; what++) {
            due("size(" + what + ")", x.size(what), sizes[what]);
        }
    }

    // ---- "thing NAME answers WHOLE (2 .. 4; up to 8)"

    static void promise03_answersFrom2To4() {
        faulty(4, "thing a answers |0");
        faulty(4, "thing a answers |1");
        sound(1, "thing a answers 2");
        sound(1, "thing a answers 3");
        sound(1, "thing a answers 4");
        faulty(4, "thing a answers |5");
        faulty(4, "thing a answers |999");
        good("ways(): 2", openWays("thing a answers 2"), 2);
        good("ways(): 3", openWays("thing a answers 3"), 3);
        good("ways(): 4", openWays("thing a answers 4"), 4);
    }

    private static int openWays(String text) {
        open(text);
        return x.ways();
    }

    static void promise03_upTo8Things() {
        sound(7, lines("thing # answers 2", 7));
        sound(8, lines("thing # answers 2", 8));
        faulty(5, lines("thing # answers 2", 8) + ";|thing i answers 2");
        faulty(5, lines("thing # answers 2", 8) + ";|thing a answers 9");
        faulty(5, lines("thing # answers 2", 8) + ";|thing");
        sound(8, lines("thing # answers 2", 7) + ";law runs;master m blind;thing z answers 2");
    }

    // ---- "follows THING WHOLE, THING WHOLE (ANSWERS of these, from 0 on; unlike THINGS; up to 6)"

    static void promise03_followsAnswersFrom0On() {
        sound(2, AB + "follows a 0,b 0;follows a 1,b 3;follows b 3,a 1");
        faulty(4, AB + "follows a |2,b 0");
        faulty(4, AB + "follows b |4,a 0");
        faulty(4, AB + "follows a 0,b |4");
        faulty(4, AB + "follows b 0,a |2");
    }

    static void promise03_followsOfUnlikeThings() {
        faulty(3, AB + "follows a 0,|a 0");
        faulty(3, AB + "follows b 0,|b 9");
        sound(2, AB + "follows a 0,b 0;follows b 0,a 0");
    }

    static void promise03_upTo6Follows() {
        sound(2, AB + lines("follows a 0,b 0", 6));
        faulty(5, AB + lines("follows a 0,b 0", 6) + ";|follows a 0,b 0");
        faulty(5, AB + lines("follows a 0,b 0", 6) + ";|follows");
    }

    // ---- "master NAME KIND (KIND: plain, ever, blind, or change; up to 6)"

    static void promise03_kindsAreFour() {
        sound(1, A + "master p plain;master e ever;master b blind;master c change");
        faulty(1, A + "master p |plai");
        faulty(1, A + "master p |plainn");
        faulty(1, A + "master p |pair");
        faulty(1, A + "master p |0");
        faulty(1, A + "master p|");
        faulty(1, A + "master p |;");
    }

    static void promise03_upTo6Masters() {
        sound(1, A + lines("master m# plain", 6));
        faulty(5, A + lines("master m# plain", 6) + ";|master mg plain");
        faulty(5, A + lines("master m# plain", 6) + ";|master ma");
    }

    // ---- "law pair, or law runs, or law wrong WHOLE (0 .. 8), each once"

    static void promise03_lawsOnceEach() {
        sound(1, A + "law pair;law runs;law wrong 3");
        faulty(3, A + "law pair;law |pair");
        faulty(3, A + "law runs;law |runs");
        faulty(3, A + "law wrong 3;law |wrong 4");
        faulty(3, A + "law wrong 3;law |wrong 9");
        faulty(3, A + "law wrong 3;law |wrong");
        faulty(3, A + "law pair;law runs;law wrong 3;law |runs");
        faulty(1, A + "law |plain");
        faulty(1, A + "law|");
        faulty(1, A + "law pair |3");
    }

    static void promise03_wrongFrom0To8() {
        sound(1, A + "law wrong 0");
        due("size(7)", x.size(7), 0);
        sound(1, A + "law wrong 8");
        due("size(7)", x.size(7), 8);
        faulty(4, A + "law wrong |9");
        faulty(1, A + "law wrong|");
        faulty(1, A + "law wrong |;");
    }

    // ---- "says MASTER THING WHOLE (an ANSWER; up to 16)"

    static void promise03_aSayingsAnswerIsOneOfItsThing() {
        sound(2, ABM + "says m a 0;says m a 1;says m b 0;says m b 3");
        faulty(4, ABM + "says m a |2");
        faulty(4, ABM + "says m b |4");
        faulty(4, ABM + "says m a |3");
    }

    static void promise03_upTo16Sayings() {
        sound(2, ABM + lines("says m b 3", 15));
        sound(2, ABM + lines("says m b 3", 16));
        due("size(2)", x.size(2), 16);
        faulty(5, ABM + lines("says m b 3", 16) + ";|says m b 3");
        faulty(5, ABM + lines("says m b 3", 16) + ";|says");
    }

    // ---- "child NAME hears MASTER {, MASTER} (unlike ones; up to 5)"

    static void promise03_aChildHearsOneOrMore() {
        faulty(1, MANY + A + "child c hears|");
        faulty(1, MANY + A + "child c hears |;");
        sound(1, MANY + A + "child c hears ma");
        sound(1, MANY + A + "child c hears ma,mb,mc,md,me,mf");
        sound(1, MANY + A + "child c hears mf,me,md,mc,mb,ma");
        faulty(1, MANY + A + "child c hears ma,|");
        faulty(1, MANY + A + "child c hears ma |mb");
        faulty(1, MANY + A + "child c hears ma,mb,mc,md,me,mf,|");
    }

    static void promise03_aChildHearsUnlikeOnes() {
        faulty(3, MANY + A + "child c hears ma,|ma");
        faulty(3, MANY + A + "child c hears mb,ma,|mb");
        faulty(3, MANY + A + "child c hears ma,mb,mc,md,me,mf,|ma");
        faulty(3, MANY + A + "child c hears ma,mb,mc,md,me,mf,|mf");
        sound(1, MANY + A + "child c hears ma,mb;child d hears ma,mb");
    }

    static void promise03_upTo5Children() {
        sound(1, MANY + A + lines("child c# hears ma", 5));
        faulty(5, MANY + A + lines("child c# hears ma", 5) + ";|child cf hears ma");
        faulty(5, MANY + A + lines("child c# hears ma", 5) + ";|child");
    }

    // ---- "trial THING cost WHOLE (each THING once; 1 .. 99)"

    static void promise03_costsFrom1To99() {
        faulty(4, A + "trial a cost |0");
        faulty(4, A + "trial a cost |000");
        sound(1, A + "trial a cost 1");
        good("worst()", x.worst(), 1);
        sound(1, A + "trial a cost 99");
        good("worst()", x.worst(), 99);
        faulty(4, A + "trial a cost |100");
    }

    static void promise03_aTrialOfEachThingOnce() {
        sound(2, AB + "trial b cost 1;trial a cost 1");
        sound(8, lines("thing # answers 2", 8) + ";" + lines("trial # cost 1", 8));
        due("size(4)", x.size(4), 8);
        faulty(3, AB + "trial a cost 1;trial |a cost 1");
        faulty(3, AB + "trial a cost 1;trial b cost 1;trial |a cost 0");
        faulty(3, AB + "trial b cost 1;trial |b");
    }

    // ---- "NAMES are WORDS but thing, follows, master, law, says, child, trial; each told once, ahead of its use"

    static void promise03_sevenWordsAreNoNames() {
        for (String word : new String[] {"thing", "follows", "master", "law", "says", "child", "trial"}) {
            faulty(1, "thing |" + word + " answers 2");
            faulty(1, "master |" + word + " plain");
            faulty(1, ABM + "child |" + word + " hears m");
            faulty(1, ABM + "says |" + word + " a 0");
            faulty(1, ABM + "says m |" + word + " 0");
            faulty(1, ABM + "child c hears |" + word);
            faulty(1, ABM + "child c hears m,|" + word);
            faulty(1, AB + "trial |" + word + " cost 1");
            faulty(1, AB + "follows |" + word + " 0,a 0");
            faulty(1, AB + "follows a 0,|" + word + " 0");
        }
    }

    static void promise03_allOtherWordsMayBeNames() {
        for (String word : new String[] {"answers", "hears", "cost", "plain", "ever", "blind", "change", "pair", "runs",
            "wrong", "things", "thin", "laws"}) {
            sound(1, "thing " + word + " answers 2;trial " + word + " cost 1");
            sound(1, A + "master " + word + " plain;says " + word + " a 0");
            sound(1, A + "master m plain;child " + word + " hears m");
        }
    }

    static void promise03_aNameIsToldOnceAmongAllSorts() {
        faulty(3, A + "thing |a answers 2");
        faulty(3, A + "master |a plain");
        faulty(3, ABM + "child |a hears m");
        faulty(3, ABM + "child |m hears m");
        faulty(3, ABM + "master |m ever");
        faulty(3, ABM + "thing |m answers 2");
        faulty(3, ABM + "child c hears m;thing |c answers 2");
        faulty(3, ABM + "child c hears m;master |c ever");
        faulty(3, ABM + "child c hears m;child |c hears m");
    }

    static void promise03_aNameIsToldAheadOfItsUse() {
        faulty(2, "trial |a cost 1;thing a answers 2");
        faulty(2, A + "follows a 0,|b 0;thing b answers 2");
        faulty(2, A + "says |m a 0;master m plain");
        faulty(2, A + "child c hears |m;master m plain");
        sound(1, A + "master m plain;says m a 0;child c hears m;trial a cost 1");
    }

    static void promise03_asManyNamesAsThereIsRoomFor() {
        String told = lines("master m# plain", 6) + ";" + lines("child c# hears ma,mf", 5) + ";"
            + lines("thing # answers 2", 8);
        sound(8, told + ";trial h cost 1;trial a cost 1;says mf h 0;says ma a 1;follows h 0,a 0");
        faulty(2, told + ";trial |i cost 1");
        faulty(3, told + ";trial h cost 1;trial |h cost 1");
        faulty(2, told + ";says mf |ce 0");
        faulty(3, lines("thing # answers 2", 8) + ";" + lines("master m# plain", 6) + ";"
            + lines("child c# hears ma", 4) + ";child |h hears ma");
    }

    // ---- FAULTS, "the first that is met from the left, of one place the least number"

    static void promise03_theFirstFaultFromTheLeft() {
        faulty(4, "thing a answers |9;thing a answers 9;x");
        faulty(3, A + "thing |a answers 9");
        faulty(1, A + "thing b |answer 9;thing a answers 2");
        faulty(2, A + "says |m b 9");
        faulty(1, "|x thing a answers 9");
        faulty(5, lines("master # plain", 6) + ";|master thing");
    }

    static void promise03_ofOnePlaceTheLeastNumber() {
        faulty(4, lines("thing # answers 4", 6) + ";thing g answers |5");
        faulty(1, lines("thing # answers 4", 6) + ";thing g answers |0005");
        faulty(1, "law runs;|");
        faulty(2, ABM + "child c hears m,|a");
    }

    /** "1 FORM: the first byte that begins no TOKEN, or TOKEN with which no SCHOOL goes on (the end: its place)". */
    static void promise03_formAtTheEndOfEachBeginning() {
        String[] texts = {"thing a answers 2", "thing a answers 2;follows a 0,b 0", "thing a answers 2;master m plain",
            "thing a answers 2;law wrong 3", "thing a answers 2;master m plain;says m a 0",
            "thing a answers 2;master m plain;child c hears m", "thing a answers 2;trial a cost 9"};
        for (String text : texts) {
            String whole = text.replace(";follows", ";thing b answers 2;follows");
            int last = whole.lastIndexOf(';') + 1;
            for (int blank = whole.indexOf(' ', last); blank > 0; blank = whole.indexOf(' ', blank + 1)) {
                faulty(1, whole.substring(0, blank) + "|");
                faulty(1, whole.substring(0, blank) + "  |");
                faulty(1, whole.substring(0, blank) + " |.");
                faulty(1, whole.substring(0, blank) + "|;" + A);
            }
            sound(whole.contains("thing b") ? 2 : 1, whole);
        }
    }

    /** Each TOKEN of each sort of LINE in place of which one of another kind stands. */
    static void promise03_formAtEachTokenOfAnotherKind() {
        String[] texts = {"thing z answers 2", "follows a 0 , b 0", "master z plain", "law wrong 3", "law pair",
            "says m a 0", "child z hears m , n", "trial a cost 9"};
        String before = ABM + "master n ever";
        for (String text : texts) {
            String[] tokens = text.split(" ");
            for (int i = 0; i < tokens.length; i++) {
                StringBuilder start = new StringBuilder(before + ";");
                for (int k = 0; k < i; k++) {
                    start.append(tokens[k]).append(' ');
                }
                for (String other : othersThan(tokens[i])) {
                    faulty(1, start + "|" + other);
                    faulty(1, start + "|" + other + " " + text);
                }
            }
            sound(text.startsWith("thing") ? 3 : 2, before + ";" + text);
            for (String other : new String[] {"z", "7", ".", "law", "abcdefghi", "1000"}) {
                faulty(1, before + ";" + text + " |" + other + ";" + text);
            }
            if (!text.startsWith("child")) {
                faulty(1, before + ";" + text + "|,");
            }
        }
    }

    private static String[] othersThan(String token) {
        if (token.equals(",")) {
            return new String[] {"z", "7", ".", "law", "abcdefghi", "1000"};
        }
        if (Character.isDigit(token.charAt(0))) {
            return new String[] {"z", ";", ",", ".", "law", "abcdefghi", "1000"};
        }
        return new String[] {"7", ";", ",", ".", "abcdefghi", "1000"};
    }

    /** "2 a NAME that isn't told, or is of another sort than must stand there; at it". */
    static void promise03_namesOfAnotherSort() {
        String all = ABM + "child c hears m;";
        faulty(2, all + "follows |m 0,a 0");
        faulty(2, all + "follows |c 0,a 0");
        faulty(2, all + "follows |z 0,a 0");
        faulty(2, all + "follows a 0,|m 0");
        faulty(2, all + "follows a 0,|c 0");
        faulty(2, all + "says |a a 0");
        faulty(2, all + "says |c a 0");
        faulty(2, all + "says |z a 0");
        faulty(2, all + "says m |m 0");
        faulty(2, all + "says m |c 0");
        faulty(2, all + "says m |z 0");
        faulty(2, all + "child d hears |a");
        faulty(2, all + "child d hears |c");
        faulty(2, all + "child d hears |d");
        faulty(2, all + "child d hears m,|z");
        faulty(2, all + "trial |m cost 1");
        faulty(2, all + "trial |c cost 1");
        faulty(2, all + "trial |z cost 1");
    }

    /** "6 LACKS, at the end: no thing". */
    static void promise03_noThing() {
        faulty(6, "law runs|");
        faulty(6, "law runs  |");
        faulty(6, "master m plain;child c hears m|");
        faulty(1, "law runs;|");
        sound(1, "law runs;thing a answers 2");
    }

    /** "7 a THING with which there would be more than 4,096 ways for all to be so or so; at its WHOLE". */
    static void promise03_upTo4096Ways() {
        sound(6, lines("thing # answers 4", 6));
        good("ways()", x.ways(), 4096);
        faulty(7, lines("thing # answers 4", 6) + ";thing g answers |2");
        faulty(7, lines("thing # answers 4", 6) + ";thing g answers |2;x");
        faulty(7, lines("thing # answers 4", 5) + ";thing f answers 2;thing g answers |3");
        sound(7, lines("thing # answers 4", 5) + ";thing f answers 2;thing g answers 2");
        sound(8, lines("thing # answers 4", 4) + ";" + lines("thing m# answers 2", 4));
        good("ways()", x.ways(), 4096);
        faulty(7, lines("thing # answers 4", 4) + ";" + lines("thing m# answers 2", 3) + ";thing z answers |3");
        sound(7, lines("thing # answers 3", 7));
        good("ways()", x.ways(), 2187);
        faulty(7, lines("thing # answers 3", 7) + ";thing h answers |2");
        sound(7, lines("thing # answers 3", 5) + ";thing f answers 4;thing g answers 4");
        good("ways()", x.ways(), 3888);
    }

    public static void main(String[] args) {
        runAll(Bounds03TextTest.class, 3, 3);
    }
}
