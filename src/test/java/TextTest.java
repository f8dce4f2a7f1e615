import java.nio.charset.StandardCharsets;
import java.util.Arrays;

/** THE TAPE, the text of a SCHOOL and its FAULTS: promises 2 to 5 and the terms I. */
public final class TextTest {
    private static int wrong = 0;

    private static void due(String what, long got, long want) {
        if (got != want) {
            wrong++;
            System.out.println(what + " answered " + got + ", due is " + want);
        }
    }

    private static void feedAll(TwoMasters x, byte[] text) {
        byte[] bytes = Arrays.copyOf(text, (text.length + 19) / 20 * 20);
        for (int i = 0; i < bytes.length; i += 20) {
            int[] n = new int[5];
            for (int k = 0; k < 20; k++) {
                n[k / 4] = n[k / 4] << 8 | bytes[i + k] & 255;
            }
            x.feed(n[0], n[1], n[2], n[3], n[4]);
        }
    }

    private static int school(TwoMasters x, String text) {
        byte[] bytes = text.getBytes(StandardCharsets.ISO_8859_1);
        feedAll(x, bytes);
        return x.school(bytes.length);
    }

    /** The | in a text, which is left out, tells the place of the FAULT. */
    private static void faulty(int number, String marked) {
        int place = marked.indexOf('|');
        String text = marked.substring(0, place) + marked.substring(place + 1);
        TwoMasters x = new TwoMasters();
        due("size 0 after " + text, school(x, "thing old answers 3;law runs"), 1);
        due("fault() without one", x.fault(), 0);
        due("where() without one", x.where(), -1);
        due("school of " + marked, school(x, text), -1);
        due("trouble() of " + marked, x.trouble(), 4);
        due("fault() of " + marked, x.fault(), number);
        due("where() of " + marked, x.where(), place);
        due("size(11), the tape is empty after " + marked, x.size(11), 0);
        due("size(0), the school stays after " + marked, x.size(0), 1);
        due("size(6), the school stays after " + marked, x.size(6), 4);
        due("ways(), the school stays after " + marked, x.ways(), 3);
        due("fault() stays after " + marked, x.fault(), number);
        due("where() is of the latest call " + marked, x.where(), -1);
    }

    private static void sound(int things, String text) {
        TwoMasters x = new TwoMasters();
        due("school of " + text, school(x, text), things);
        due("trouble() of " + text, x.trouble(), 0);
        due("fault() of " + text, x.fault(), 0);
        due("where() of " + text, x.where(), -1);
    }

    private static String repeated(String line, int times) {
        StringBuilder text = new StringBuilder();
        for (int i = 0; i < times; i++) {
            text.append(i == 0 ? "" : ";").append(line.replace('#', (char) ('a' + i)));
        }
        return text.toString();
    }

    private static final String AB = "thing a answers 2;thing b answers 4;";
    private static final String ABM = AB + "master m plain;";

    private static void soundTexts() {
        sound(1, "thing a answers 2");
        sound(1, "thing a answers 4");
        sound(1, "   thing   a   answers   2   ");
        sound(1, "thing a answers2");
        sound(1, "thing a answers 002");
        sound(1, "thing abcdefgh answers 3");
        sound(2, "thing answers answers 2;thing hears answers 2;master plain plain;child cost hears plain");
        sound(1, "law pair;law wrong 0;law runs;thing pair answers 2;master runs change;master wrong blind");
        sound(1, "master m ever;child c hears m;thing a answers 2;trial a cost 99;says m a 1;says m a 1");
        sound(2, AB + "follows a 1,b 3;follows a1,b3;follows b 3 , a 1;trial b cost 1");
        sound(1, "thing a answers 2;law wrong 8");
        sound(1, "thing a answers 2;law wrong 008");
        sound(8, repeated("thing # answers 2", 8));
        sound(6, repeated("thing # answers 4", 6));
        sound(7, repeated("thing # answers 3", 7));
        sound(2, AB + repeated("follows a 0,b 0", 6));
        sound(1, "thing x answers 2;" + repeated("master # plain", 6));
        sound(2, ABM + repeated("says m b 3", 16));
        sound(2, ABM + repeated("child c# hears m", 5));
        sound(1, "thing a answers 2;" + repeated("master m# blind", 6) + ";child c hears mf,ma,mb,mc,md,me");
    }

    private static void formFaults() {
        faulty(1, "|");
        faulty(1, "   |");
        faulty(1, "|;thing a answers 2");
        faulty(1, "|,");
        faulty(1, "|7");
        faulty(1, "|a");
        faulty(1, "|things a answers 2");
        faulty(1, "thing|");
        faulty(1, "thing  |");
        faulty(1, "thing |7 answers 2");
        faulty(1, "thing |; answers 2");
        faulty(1, "thing |abcdefghi answers 2");
        faulty(1, "|abcdefghi");
        faulty(1, "thing a answers |2222");
        faulty(1, "thing a answers |");
        faulty(1, "thing a answers |two");
        faulty(1, "thing a |answer 2");
        faulty(1, "thing a |2");
        faulty(1, "thing |A answers 2");
        faulty(1, "|Thing a answers 2");
        faulty(1, "thing a|\u00e9 answers 2");
        faulty(1, "thing a|\0 answers 2");
        faulty(1, "thing\t|a".replace("\t|", "|\t"));
        faulty(1, "thing a answers 2;|");
        faulty(1, "thing a answers 2; |");
        faulty(1, "thing a answers 2|,");
        faulty(1, "thing a answers 2 |2");
        faulty(1, "thing a answers 2|a");
        faulty(1, "thing a answers 2;|;");
        faulty(1, "thing a answers 2|.");
        for (String word : new String[] {"thing", "follows", "master", "law", "says", "child", "trial"}) {
            faulty(1, "thing |" + word + " answers 2");
            faulty(1, "master |" + word + " plain");
            faulty(1, "child |" + word + " hears m");
            faulty(1, ABM + "says |" + word + " a 0");
            faulty(1, ABM + "says m |" + word + " 0");
            faulty(1, ABM + "child c hears |" + word);
            faulty(1, AB + "trial |" + word + " cost 1");
            faulty(1, AB + "follows |" + word + " 0,a 0");
        }
        faulty(1, AB + "follows a |,b 0");
        faulty(1, AB + "follows a 0 |b 0");
        faulty(1, AB + "follows a 0;|b 0".replace(";|", "|;"));
        faulty(1, AB + "follows a 0,|");
        faulty(1, AB + "follows a 0,b|");
        faulty(1, AB + "follows a 0,b 0|,a 1");
        faulty(1, AB + "follows |;x");
        faulty(1, AB + "follows a |;x");
        faulty(1, AB + "follows a 0,|;x");
        faulty(1, AB + "follows a 0,b |;x");
        faulty(1, ABM + "says |;x");
        faulty(1, ABM + "says m |;x");
        faulty(1, ABM + "says m a |;x");
        faulty(1, ABM + "child c hears |;x");
        faulty(1, ABM + "child c hears m,|;x");
        faulty(1, AB + "trial |;x");
        faulty(1, AB + "trial a cost |;x");
        faulty(1, "law |;x");
        faulty(1, "law wrong |;x");
        faulty(1, "master m |;x");
        faulty(1, "thing a answers |;x");
        faulty(1, "master m |kind");
        faulty(1, "master m |");
        faulty(1, "law |fair");
        faulty(1, "law |2");
        faulty(1, "law wrong|");
        faulty(1, "law wrong |a");
        faulty(1, "law pair |2");
        faulty(1, ABM + "says m a|");
        faulty(1, ABM + "says m |0");
        faulty(1, ABM + "child c |hear m");
        faulty(1, ABM + "child c hears|");
        faulty(1, ABM + "child c hears m |m");
        faulty(1, ABM.replace(";master m plain;", ";master m plain;child c hears m,|"));
        faulty(1, AB + "trial a |costs 1");
        faulty(1, AB + "trial a cost |");
    }

    private static void otherFaults() {
        faulty(2, "says |m");
        faulty(2, AB + "follows |c");
        faulty(2, AB + "follows a 0,|c 0");
        faulty(2, ABM + "follows |m 0,a 0");
        faulty(2, ABM + "says |a a 0");
        faulty(2, ABM + "says m |m 0");
        faulty(2, ABM + "says m |c 0");
        faulty(2, ABM + "child c hears |c");
        faulty(2, ABM + "child c hears |a");
        faulty(2, ABM + "child c hears m,|b");
        faulty(2, ABM + "child c hears m;says |c a 0");
        faulty(2, "trial |a cost 1;thing a answers 2");
        faulty(2, ABM + "trial |m cost 1");
        faulty(2, ABM + "trial |answers");
        faulty(3, AB + "thing |a answers 2");
        faulty(3, AB + "master |b plain");
        faulty(3, ABM + "thing |m answers 9");
        faulty(3, ABM + "child |m hears m");
        faulty(3, ABM + "child c hears m;child |c hears m");
        faulty(3, ABM + "child c hears m;master |c foo");
        faulty(3, AB + "follows a 0,|a 7");
        faulty(3, ABM + "master n ever;child c hears m,n,|m");
        faulty(3, "law pair;law |pair");
        faulty(3, "law runs;law pair;law |runs");
        faulty(3, "law wrong 3;law |wrong 9");
        faulty(3, AB + "trial a cost 1;trial b cost 1;trial |a cost 0");
        faulty(4, "thing a answers |1");
        faulty(4, "thing a answers |0");
        faulty(4, "thing a answers |5");
        faulty(4, "thing a answers |999 x");
        faulty(4, AB + "follows a |2,b 0");
        faulty(4, AB + "follows a 1,b |4");
        faulty(4, "law wrong |9");
        faulty(4, ABM + "says m a |2");
        faulty(4, ABM + "says m b |004");
        faulty(4, AB + "trial a cost |0");
        faulty(4, AB + "trial a cost |100");
        faulty(5, repeated("thing # answers 2", 8) + ";|thing a answers 9");
        faulty(5, repeated("thing # answers 2", 8) + ";|thing");
        faulty(5, AB + repeated("follows a 0,b 0", 6) + ";|follows x");
        faulty(5, repeated("master # plain", 6) + ";|master a");
        faulty(5, ABM + repeated("says m a 0", 16) + ";|says");
        faulty(5, ABM + repeated("child c# hears m", 5) + ";|child");
        faulty(6, "law runs|");
        faulty(6, "law runs  |");
        faulty(6, "master m plain;child c hears m|");
        faulty(7, repeated("thing # answers 4", 6) + ";thing g answers |2");
        faulty(4, repeated("thing # answers 4", 6) + ";thing g answers |5");
        faulty(7, repeated("thing # answers 3", 7) + ";thing h answers |2;x");
    }

    private static void tape() {
        TwoMasters x = new TwoMasters();
        due("school(-1)", x.school(-1), -1);
        due("trouble()", x.trouble(), 2);
        due("fault()", x.fault(), 0);
        for (int i = 1; i <= 45; i++) {
            due("feed " + i, x.feed(0x20202020, -1, 0, Integer.MIN_VALUE, 0x20202020), 20 * i);
        }
        due("feed 46", x.feed(1, 2, 3, 4, 5), -1);
        due("size(11)", x.size(11), 900);
        due("trouble(), feed tells no number", x.trouble(), 2);
        due("school(901)", x.school(901), -1);
        due("trouble()", x.trouble(), 2);
        due("size(11), the tape stays", x.size(11), 900);
        due("school(900)", x.school(900), -1);
        due("fault()", x.fault(), 1);
        due("where()", x.where(), 4);
        due("feed again", x.feed(1, 2, 3, 4, 5), 20);
        due("where(), feed can't be refused by a number", x.where(), 4);
        due("school(21)", x.school(21), -1);
        due("fault() is of the one before", x.fault(), 1);
        due("where()", x.where(), -1);
        due("school(20)", x.school(20), -1);
        due("fault(), at the byte 0", x.where(), 0);
    }

    private static void highestFirst() {
        TwoMasters x = new TwoMasters();
        x.feed(('t' << 24) | ('h' << 16) | ('i' << 8) | 'n', ('g' << 24) | (' ' << 16) | ('a' << 8) | ' ',
            ('a' << 24) | ('n' << 16) | ('s' << 8) | 'w', ('e' << 24) | ('r' << 16) | ('s' << 8) | ' ', '3' << 24);
        due("school(17)", x.school(17), 1);
        due("ways()", x.ways(), 3);
        due("the rest of the tape is gone", x.size(11), 0);
    }

    /** A text of 900 bytes that fills all room; the last byte counts. */
    private static void longest() {
        String text = repeated("thing # answers 2", 8) + ";" + repeated("master m# change", 6);
        while (text.length() < 890) {
            text += " ";
        }
        text += ";law pair ";
        due("its length", text.length(), 900);
        TwoMasters x = new TwoMasters();
        due("school(900)", school(x, text), 8);
        due("masters", x.size(1), 6);
        due("laws", x.size(6), 1);
        feedAll(x, text.getBytes(StandardCharsets.ISO_8859_1));
        due("school(898), law pai", x.school(898), -1);
        due("where", x.where(), 895);
    }

    private static void newSchool() {
        TwoMasters x = new TwoMasters();
        school(x, "thing a answers 2;master m ever;law wrong 5;law pair;says m a 0;child c hears m;trial a cost 7");
        due("seed", x.seed(9) ? 1 : 0, 1);
        due("draw", x.draw(), 1);
        due("tries", x.tries(0), 1);
        due("mark", x.mark(), 0);
        due("a new school", school(x, "thing b answers 4;thing c answers 2"), 2);
        int[] sizes = {2, 0, 0, 0, 0, 0, 0, -2, 0, 0, 0, 0};
        for (int what = 0; what < sizes.length; what++) {
            due("size(" + what + ") of the new school", x.size(what), sizes[what]);
        }
        due("spent()", x.spent(), 0);
        due("fact(0)", x.fact(0), -2);
        due("worlds()", x.worlds(), 8);
        due("back(0)", x.back(0) ? 1 : 0, 0);
        due("trouble()", x.trouble(), 1);
        due("tries(0), the old trial is gone", x.tries(0), -1);
        due("trouble()", x.trouble(), 5);
    }

    public static void main(String[] args) {
        soundTexts();
        formFaults();
        otherFaults();
        tape();
        highestFirst();
        longest();
        newSchool();
        System.out.println(wrong == 0 ? "all answers are as due" : wrong + " answers are not as due");
        if (wrong != 0) {
            System.exit(1);
        }
    }
}
