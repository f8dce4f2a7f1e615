import java.util.Arrays;
import java.util.NoSuchElementException;

/** A school taught by masters who contradict one another: what is so, and how to find it out. */
public final class TwoMasters {
    /** There is none; refused. */
    public static final int NONE = -1;

    private static final int NEITHER = -2;

    private static final int NO_SUCH = 1;
    private static final int A_NUMBER = 2;
    private static final int NO_ROOM = 3;
    private static final int A_FAULT = 4;
    private static final int NOT_SO = 5;
    private static final int IS_NONE = 6;

    private static final int TAPE_BYTES = 900;
    private static final int FEED_BYTES = 20;
    private static final int MOST_WAYS = 4096;
    private static final int MOST_WORDS = 64;
    private static final int MOST_THINGS = 8;
    private static final int MOST_ANSWERS = 4;
    private static final int MOST_FOLLOWS = 6;
    private static final int MOST_MASTERS = 6;
    private static final int MOST_SAYINGS = 16;
    /** One more than a text may tell: LISTEN puts a saying behind all. */
    private static final int SAYING_ROOM = 17;
    private static final int MOST_CHILDREN = 5;
    private static final int MOST_MARKS = 3;
    private static final int MOST_STATES = 50625;
    /** More than any count or cost. */
    private static final int VERY_MUCH = 1000000000;

    private static final int PLAIN = 0;
    private static final int EVER = 1;
    private static final int BLIND = 2;
    private static final int CHANGE = 3;

    private static final int LAW_PAIR = 1;
    private static final int LAW_WRONG = 2;
    private static final int LAW_RUNS = 4;
    private static final int ALL_LAWS = 7;

    private static final int MILLION = 1000000;
    private static final int MOST_YEARS = 40;
    private static final int HUNDRED = 100;
    private static final int SEEDS = 65537;

    private final Reader reader = new Reader();
    private final Court court = new Court();
    private final Ways ways = court.ways;
    /** No SCHOOL as long as it has no thing: no text without one is a SCHOOL. */
    private School school = ways.told;
    private final Proofs proofs = new Proofs();
    private final Plan plan = new Plan();
    private final Term term = new Term();
    private final Row lawfulRow = new Row();
    private final Row worldRow = new Row();
    private final Row scratch = new Row();
    private final Tally tally = new Tally();
    private final int[] beliefs = new int[MOST_THINGS];
    private int lesson = NEITHER;
    private int reckonedFor;
    private int why;
    private int faultNumber;
    private int faultPlace;

    public TwoMasters() {
    }

    // ---- the school

    public int feed(int a, int b, int c, int d, int e) {
        if (reader.fed + FEED_BYTES > TAPE_BYTES) {
            return NONE;
        }
        reader.put(a);
        reader.put(b);
        reader.put(c);
        reader.put(d);
        reader.put(e);
        return reader.fed;
    }

    public int school(int n) {
        if (n < 0 || n > reader.fed) {
            return refuse(A_NUMBER);
        }
        faultNumber = reader.read(n);
        if (faultNumber != 0) {
            faultPlace = reader.from;
            return refuse(A_FAULT);
        }
        openSchool();
        return accept(school.things);
    }

    /** The SCHOOL of up to now is what the next text is read into. */
    private void openSchool() {
        School old = school;
        school = reader.into;
        reader.into = old;
        ways.build(school);
        court.judge(school.allSayings(), school.laws, lawfulRow);
        proofs.known = false;
        term.begin();
        reckonWorlds();
    }

    public int fault() {
        return faultNumber;
    }

    public int where() {
        return why == A_FAULT ? faultPlace : NONE;
    }

    // ---- worlds

    public int ways() {
        return isOpen() ? accept(ways.count) : refuse(NO_SUCH);
    }

    public int worlds() {
        return isOpen() ? accept(worldRow.members) : refuse(NO_SUCH);
    }

    public int world(int i) {
        if (!isOpen() || i < 0 || i >= worldRow.members) {
            return refuse(NO_SUCH);
        }
        return accept(worldRow.memberAt(i));
    }

    public int lawful(int way) {
        if (!isOpen() || way < 0 || way >= ways.count) {
            return refuse(NO_SUCH);
        }
        return accept(lawfulRow.has(way) ? 1 : 0);
    }

    public int culprit() {
        if (!isOpen()) {
            return refuse(NO_SUCH);
        }
        for (int i = 0; i < school.sayings; i++) {
            court.judge((2 << i) - 1, school.laws, scratch);
            if (scratch.members == 0) {
                return accept(i);
            }
        }
        return accept(NEITHER);
    }

    public int sure(int thing) {
        int no = withoutWorlds(isThing(thing));
        if (no != 0) {
            return refuse(no);
        }
        return accept(onlyBit(ways.answersIn(worldRow, thing)));
    }

    public int may(int thing) {
        return isThing(thing) ? accept(ways.answersIn(worldRow, thing)) : refuse(NO_SUCH);
    }

    public int likely(int thing, int answer, boolean lower) {
        int no = withoutWorlds(isAnswer(thing, answer));
        if (no != 0) {
            return refuse(no);
        }
        return accept(lowest(ways.membersWith(worldRow, thing, answer), worldRow.members, lower));
    }

    public int settled() {
        int no = withoutWorlds(isOpen());
        return no != 0 ? refuse(no) : accept(ways.sureIn(worldRow));
    }

    public int right(int saying) {
        int no = withoutWorlds(isSaying(saying));
        if (no != 0) {
            return refuse(no);
        }
        int rightOnes = ways.membersWith(worldRow, school.of[saying], school.answer[saying]);
        if (rightOnes == worldRow.members) {
            return accept(1);
        }
        return accept(rightOnes == 0 ? 0 : NEITHER);
    }

    public int wrongs(int master, boolean least) {
        int no = withoutWorlds(isMaster(master));
        if (no != 0) {
            return refuse(no);
        }
        int low = MOST_THINGS;
        int high = 0;
        for (int w = 0; w < worldRow.words; w++) {
            long in = worldRow.bits[w];
            if (in != 0L) {
                tallyWrongs(master, w);
                low = Math.min(low, tally.leastIn(in));
                high = Math.max(high, tally.mostIn(in));
            }
        }
        return accept(least ? low : high);
    }

    private void tallyWrongs(int master, int w) {
        tally.clear();
        for (int t = 0; t < school.things; t++) {
            tally.add(~ways.allRightWord(master, t, w));
        }
    }

    public int proof(int thing) {
        if (!isThing(thing)) {
            return refuse(NO_SUCH);
        }
        proofs.prepare(court);
        return accept(proofs.by[thing] < 0 ? NEITHER : Integer.bitCount(proofs.by[thing]));
    }

    public int proofBy(int thing) {
        if (!isThing(thing)) {
            return refuse(NO_SUCH);
        }
        proofs.prepare(court);
        return accept(proofs.by[thing]);
    }

    // ---- trials, lessons

    public int worst() {
        int no = withoutWorlds(isOpen());
        if (no != 0) {
            return refuse(no);
        }
        plan.prepare(ways, worldRow);
        return accept(plan.can ? plan.worstCost : NEITHER);
    }

    public int first() {
        int no = withoutPlan();
        return no != 0 ? refuse(no) : accept(plan.worstThing);
    }

    public int mean(boolean lower) {
        int no = withoutPlan();
        return no != 0 ? refuse(no) : accept(lowest(plan.totalCost, worldRow.members, lower));
    }

    public int meanFirst() {
        int no = withoutPlan();
        return no != 0 ? refuse(no) : accept(plan.totalThing);
    }

    /** Why there is no PLAN, and with none such reason the PLAN is made. */
    private int withoutPlan() {
        int no = withoutWorlds(isOpen());
        if (no != 0) {
            return no;
        }
        plan.prepare(ways, worldRow);
        return plan.can ? 0 : NOT_SO;
    }

    public int left(int master, int thing) {
        if (!isMaster(master) || !isThing(thing)) {
            return refuse(NO_SUCH);
        }
        return canListen(master, thing) ? accept(mostLeft(master, thing)) : refuse(NOT_SO);
    }

    public int listen() {
        if (!isOpen()) {
            return refuse(NO_SUCH);
        }
        if (lesson == NEITHER) {
            lesson = bestLesson();
        }
        return lesson < 0 ? refuse(IS_NONE) : accept(lesson);
    }

    private boolean canListen(int master, int thing) {
        return school.kind[master] != BLIND && school.firstSaying(master, thing) < 0;
    }

    private int bestLesson() {
        int best = NONE;
        int least = VERY_MUCH;
        for (int m = 0; m < school.masters; m++) {
            for (int t = 0; t < school.things; t++) {
                int most = canListen(m, t) ? mostLeft(m, t) : least;
                if (most < least) {
                    least = most;
                    best = m * MOST_THINGS + t;
                }
            }
        }
        return best;
    }

    private int mostLeft(int master, int thing) {
        int most = 0;
        for (int a = 0; a < school.answers[thing]; a++) {
            int all = school.withOneMore(master, thing, a);
            court.judge(all, school.laws, scratch);
            keepFacts(scratch);
            most = Math.max(most, scratch.members);
        }
        return most;
    }

    // ---- children

    public int believes(int child, int thing) {
        if (!isChild(child) || !isThing(thing)) {
            return refuse(NO_SUCH);
        }
        teach(child);
        return accept(ways.commonest(scratch, thing));
    }

    public int knows(int child) {
        return isChild(child) ? accept(knownBits(child)) : refuse(NO_SUCH);
    }

    public int share(int children) {
        if (!isOpen()) {
            return refuse(NO_SUCH);
        }
        if (children < 0 || children >= 1 << school.children) {
            return refuse(A_NUMBER);
        }
        int together = 0;
        for (int c = 0; c < school.children; c++) {
            if ((children >> c & 1) != 0) {
                together |= knownBits(c);
            }
        }
        return accept(together);
    }

    public int passes(int child, int need, boolean lower) {
        if (!isChild(child)) {
            return refuse(NO_SUCH);
        }
        if (need < 0 || need > MOST_THINGS) {
            return refuse(A_NUMBER);
        }
        if (worldRow.members == 0) {
            return refuse(IS_NONE);
        }
        teach(child);
        for (int t = 0; t < school.things; t++) {
            beliefs[t] = ways.commonest(scratch, t);
        }
        return accept(lowest(passedWorlds(need), worldRow.members, lower));
    }

    private int passedWorlds(int need) {
        int passed = 0;
        for (int w = 0; w < worldRow.words; w++) {
            tally.clear();
            for (int t = 0; t < school.things; t++) {
                if (beliefs[t] >= 0) {
                    tally.add(ways.truthWord(t, beliefs[t], w));
                }
            }
            passed += Long.bitCount(worldRow.bits[w] & ~tally.atMost(need - 1));
        }
        return passed;
    }

    public int agree(int master, int other, boolean alike) {
        if (!isMaster(master) || !isMaster(other) || master == other) {
            return refuse(NO_SUCH);
        }
        int bits = 0;
        for (int t = 0; t < school.things; t++) {
            int his = school.firstSaying(master, t);
            int others = school.firstSaying(other, t);
            if (his >= 0 && others >= 0 && (school.answer[his] == school.answer[others]) == alike) {
                bits |= 1 << t;
            }
        }
        return accept(bits);
    }

    /** The WAYS that a child's lessons leave stand in the scratch row then. */
    private void teach(int child) {
        court.judge(school.sayingsBy(school.hears[child]), school.laws, scratch);
    }

    private int knownBits(int child) {
        teach(child);
        return ways.sureIn(scratch);
    }

    // ---- words at home, laws, years

    public int home(int thing) {
        int no = withoutWorlds(isThing(thing));
        return no != 0 ? refuse(no) : accept(leastSure(thing));
    }

    public int bestHome() {
        int no = withoutWorlds(isOpen());
        if (no != 0) {
            return refuse(no);
        }
        int best = 0;
        int most = -1;
        for (int t = 0; t < school.things; t++) {
            int sures = leastSure(t);
            if (sures > most) {
                most = sures;
                best = t;
            }
        }
        return accept(best);
    }

    private int leastSure(int thing) {
        int least = school.things;
        for (int a = 0; a < school.answers[thing]; a++) {
            scratch.copy(worldRow);
            ways.keepOnly(scratch, thing, a);
            if (scratch.members > 0) {
                least = Math.min(least, Integer.bitCount(ways.sureIn(scratch)));
            }
        }
        return least;
    }

    public int byLaws(int laws) {
        if (!isOpen()) {
            return refuse(NO_SUCH);
        }
        if (laws < 0 || laws > ALL_LAWS) {
            return refuse(A_NUMBER);
        }
        int sures = suresBy(laws);
        return sures < 0 ? refuse(IS_NONE) : accept(sures);
    }

    public int cheapest() {
        if (!isOpen()) {
            return refuse(NO_SUCH);
        }
        int all = suresBy(school.laws);
        if (all < 0) {
            return refuse(IS_NONE);
        }
        int best = school.laws;
        for (int laws = ALL_LAWS; laws >= 0; laws--) {
            boolean told = (laws & ~school.laws) == 0;
            if (told && Integer.bitCount(laws) <= Integer.bitCount(best) && suresBy(laws) == all) {
                best = laws;
            }
        }
        return accept(best);
    }

    /** How many THINGS are SURE by some of the laws told, without FACTS; NONE without LAWFUL WAYS. */
    private int suresBy(int laws) {
        court.judge(school.allSayings(), laws & school.laws, scratch);
        return scratch.members == 0 ? NONE : Integer.bitCount(ways.sureIn(scratch));
    }

    public int years(int v, int t, int y) {
        if (!within(v, MILLION) || !within(t, HUNDRED) || !within(y, MOST_YEARS)) {
            return refuse(A_NUMBER);
        }
        return accept(afterYears(v, t, y));
    }

    public int still(int v, int y, int w) {
        if (!within(v, MILLION) || !within(y, MOST_YEARS) || !within(w, MILLION)) {
            return refuse(A_NUMBER);
        }
        for (int t = 0; t <= HUNDRED; t++) {
            if (afterYears(v, t, y) >= w) {
                return accept(t);
            }
        }
        return accept(NEITHER);
    }

    private static int afterYears(int now, int hundredths, int years) {
        long v = now;
        for (int y = 0; y < years; y++) {
            long fromTwo = v * v / MILLION;
            long inDoubt = 2L * v * (MILLION - v) / MILLION;
            long tried = inDoubt * hundredths / HUNDRED;
            v = fromTwo + tried + (inDoubt - tried) / 2L;
        }
        return (int) v;
    }

    // ---- the term

    public boolean seed(int v) {
        if (!isOpen()) {
            refuse(NO_SUCH);
            return false;
        }
        if (v < 0 || v >= SEEDS) {
            refuse(A_NUMBER);
            return false;
        }
        term.seed = v;
        accept(v);
        return true;
    }

    public int draw() {
        if (!isOpen()) {
            return refuse(NO_SUCH);
        }
        if (lawfulRow.members == 0) {
            return refuse(IS_NONE);
        }
        term.seed = (75 * term.seed + 74) % SEEDS;
        term.hide(lawfulRow.memberAt(remainder(term.seed, lawfulRow.members)));
        reckonIfChanged();
        return accept(worldRow.members);
    }

    public int tries(int thing) {
        if (!isThing(thing)) {
            return refuse(NO_SUCH);
        }
        if (school.cost[thing] == 0 || term.isFact(thing)) {
            return refuse(NOT_SO);
        }
        if (term.hidden < 0) {
            return refuse(IS_NONE);
        }
        term.facts |= 1 << thing;
        term.costs += school.cost[thing];
        reckonIfChanged();
        return accept(ways.answerIn(term.hidden, thing));
    }

    public int fact(int thing) {
        if (!isThing(thing)) {
            return refuse(NO_SUCH);
        }
        return accept(term.isFact(thing) ? ways.answerIn(term.hidden, thing) : NEITHER);
    }

    public int spent() {
        return isOpen() ? accept(term.costs) : refuse(NO_SUCH);
    }

    public int mark() {
        if (!isOpen()) {
            return refuse(NO_SUCH);
        }
        return term.marks < MOST_MARKS ? accept(term.keep()) : refuse(NO_ROOM);
    }

    public boolean back(int mark) {
        if (!isOpen() || mark < 0 || mark >= term.marks) {
            refuse(NO_SUCH);
            return false;
        }
        term.restore(mark);
        reckonIfChanged();
        accept(mark);
        return true;
    }

    private void reckonIfChanged() {
        if (factsAsNumber() != reckonedFor) {
            reckonWorlds();
        }
    }

    private void reckonWorlds() {
        worldRow.copy(lawfulRow);
        keepFacts(worldRow);
        plan.known = false;
        lesson = NEITHER;
        reckonedFor = factsAsNumber();
    }

    /** Like FACTS have like numbers, so that what was reckoned by them need not be reckoned again. */
    private int factsAsNumber() {
        int number = term.facts;
        for (int t = 0; t < school.things; t++) {
            if (term.isFact(t)) {
                number |= ways.answerIn(term.hidden, t) << MOST_THINGS + 2 * t;
            }
        }
        return number;
    }

    private void keepFacts(Row row) {
        for (int t = 0; t < school.things; t++) {
            if (term.isFact(t)) {
                ways.keepOnly(row, t, ways.answerIn(term.hidden, t));
            }
        }
    }

    // ---- what is seen

    public int saying(int i, int what) {
        if (!isSaying(i)) {
            return refuse(NO_SUCH);
        }
        switch (what) {
            case 0: return accept(school.by[i]);
            case 1: return accept(school.of[i]);
            case 2: return accept(school.answer[i]);
            default: return refuse(NO_SUCH);
        }
    }

    public int led(int i) throws NoSuchElementException {
        int sures = ways.sureIn(worldRow);
        int seen = 0;
        for (int t = 0; t < school.things; t++) {
            if ((sures >> t & 1) == 0) {
                if (seen == i) {
                    return t;
                }
                seen++;
            }
        }
        throw new NoSuchElementException("no such thing is unsure");
    }

    public int size(int what) {
        switch (what) {
            case 0: return school.things;
            case 1: return school.masters;
            case 2: return school.sayings;
            case 3: return school.children;
            case 4: return school.trials;
            case 5: return school.follows;
            case 6: return school.laws;
            case 7: return isOpen() ? school.wrongLimit : 0;
            case 8: return term.seed;
            case 9: return term.marks;
            case 10: return term.hidden < 0 ? 0 : 1;
            case 11: return reader.fed;
            default: return NONE;
        }
    }

    public int trouble() {
        return why;
    }

    // ---- what the calls share

    private int refuse(int reason) {
        why = reason;
        return NONE;
    }

    private int accept(int answer) {
        why = 0;
        return answer;
    }

    private boolean isOpen() {
        return school.things > 0;
    }

    private boolean isThing(int thing) {
        return thing >= 0 && thing < school.things;
    }

    private boolean isAnswer(int thing, int answer) {
        return isThing(thing) && answer >= 0 && answer < school.answers[thing];
    }

    private boolean isMaster(int master) {
        return master >= 0 && master < school.masters;
    }

    private boolean isSaying(int i) {
        return i >= 0 && i < school.sayings;
    }

    private boolean isChild(int child) {
        return child >= 0 && child < school.children;
    }

    /** The TROUBLE of a call that asks of WORLDS; 0 if it has none. */
    private int withoutWorlds(boolean there) {
        if (!there) {
            return NO_SUCH;
        }
        return worldRow.members == 0 ? IS_NONE : 0;
    }

    private static boolean within(int number, int most) {
        return number >= 0 && number <= most;
    }

    private static int remainder(int number, int divisor) {
        return divisor > 0 ? number % divisor : 0;
    }

    private static int lowest(int upper, int lower, boolean wantsLower) {
        int a = upper;
        int b = lower;
        // By Euclid two ints take fewer than 50 steps.
        for (int step = 0; step < 64 && b > 0; step++) {
            int rest = a % b;
            a = b;
            b = rest;
        }
        int wanted = wantsLower ? lower : upper;
        return a > 0 ? wanted / a : wanted;
    }

    /** The place of the one bit of some; -2 if there isn't just one. */
    private static int onlyBit(int bits) {
        return Integer.bitCount(bits) == 1 ? Integer.bitCount(bits - 1) : NEITHER;
    }

    /** What a text tells. */
    private static final class School {
        int things;
        final int[] answers = new int[MOST_THINGS];
        int count;
        /** What a trial of a THING costs; 0 if there is none. */
        final int[] cost = new int[MOST_THINGS];
        int trials;
        int follows;
        final int[] ifThing = new int[MOST_FOLLOWS];
        final int[] ifAnswer = new int[MOST_FOLLOWS];
        final int[] thenThing = new int[MOST_FOLLOWS];
        final int[] thenAnswer = new int[MOST_FOLLOWS];
        int masters;
        final int[] kind = new int[MOST_MASTERS];
        int laws;
        int wrongLimit;
        int sayings;
        final int[] by = new int[SAYING_ROOM];
        final int[] of = new int[SAYING_ROOM];
        final int[] answer = new int[SAYING_ROOM];
        int children;
        final int[] hears = new int[MOST_CHILDREN];

        void clear() {
            things = 0;
            count = 1;
            Arrays.fill(cost, 0);
            trials = 0;
            follows = 0;
            masters = 0;
            laws = 0;
            wrongLimit = NEITHER;
            sayings = 0;
            children = 0;
        }

        int allSayings() {
            return (1 << sayings) - 1;
        }

        int sayingsBy(int masterBits) {
            int bits = 0;
            for (int i = 0; i < sayings; i++) {
                bits |= (masterBits >> by[i] & 1) << i;
            }
            return bits;
        }

        int firstSaying(int master, int thing) {
            for (int i = 0; i < sayings; i++) {
                if (by[i] == master && of[i] == thing) {
                    return i;
                }
            }
            return NONE;
        }

        /** One more saying behind all, that is told by no text: the bits of all with it. */
        int withOneMore(int master, int thing, int what) {
            if (sayings < SAYING_ROOM) {
                by[sayings] = master;
                of[sayings] = thing;
                answer[sayings] = what;
            }
            return (2 << sayings) - 1;
        }
    }

    /** THE TAPE, and what reads a text from it, from the left, till its first FAULT. */
    private static final class Reader {
        /** WORDS that mean something, packed as the reader packs them: a byte for each letter. */
        private static final long W_THING = 0x7468696e67L;
        private static final long W_FOLLOWS = 0x666f6c6c6f7773L;
        private static final long W_MASTER = 0x6d6173746572L;
        private static final long W_LAW = 0x6c6177L;
        private static final long W_SAYS = 0x73617973L;
        private static final long W_CHILD = 0x6368696c64L;
        private static final long W_TRIAL = 0x747269616cL;
        private static final long W_ANSWERS = 0x616e7377657273L;
        private static final long W_HEARS = 0x6865617273L;
        private static final long W_COST = 0x636f7374L;
        private static final long W_PLAIN = 0x706c61696eL;
        private static final long W_EVER = 0x65766572L;
        private static final long W_BLIND = 0x626c696e64L;
        private static final long W_CHANGE = 0x6368616e6765L;
        private static final long W_PAIR = 0x70616972L;
        private static final long W_RUNS = 0x72756e73L;
        private static final long W_WRONG = 0x77726f6e67L;

        private static final int END = 0;
        private static final int WORD = 1;
        private static final int WHOLE = 2;
        private static final int SEMICOLON = 3;
        private static final int COMMA = 4;
        private static final int NO_TOKEN = 5;

        private static final int FORM = 1;
        private static final int NOT_TOLD = 2;
        private static final int TOLD_AGAIN = 3;
        private static final int BOUNDS = 4;
        private static final int MANY = 5;
        private static final int LACKS = 6;
        private static final int WAYS = 7;

        private static final int A_THING = 0;
        private static final int A_MASTER = 1;
        private static final int A_CHILD = 2;

        private static final int LONGEST_WORD = 8;
        private static final int LONGEST_WHOLE = 3;
        private static final int MOST_NAMES = MOST_THINGS + MOST_MASTERS + MOST_CHILDREN;

        private final byte[] text = new byte[TAPE_BYTES];
        int fed;
        private int end;
        private int at;
        School into = new School();
        /** The TOKEN that is looked at: its place, what it is, a WORD's letters, a WHOLE's worth. */
        int from;
        private int token;
        private long letters;
        private int worth;
        private int fault;
        /** The number, by its sort, of the NAME that was looked up last. */
        private int found;
        private int told;
        private final long[] names = new long[MOST_NAMES];
        private final int[] sorts = new int[MOST_NAMES];
        private final int[] numbers = new int[MOST_NAMES];

        void put(int number) {
            for (int shift = 24; shift >= 0 && fed < TAPE_BYTES; shift -= 8) {
                text[fed] = (byte) (number >> shift);
                fed++;
            }
        }

        /** The FAULT of the first bytes as a SCHOOL, 0 without one; its place is then that of the TOKEN. */
        int read(int bytes) {
            end = Math.min(bytes, TAPE_BYTES);
            fed = 0;
            at = 0;
            told = 0;
            fault = 0;
            into.clear();
            next();
            boolean more = readLine();
            for (int lines = 0; lines < TAPE_BYTES && more; lines++) {
                more = token == SEMICOLON;
                if (more) {
                    next();
                    more = readLine();
                }
            }
            if (fault == 0 && token != END) {
                fail(FORM);
            }
            if (fault == 0 && into.things == 0) {
                fail(LACKS);
            }
            return fault;
        }

        private boolean readLine() {
            if (stands(W_THING)) {
                return hasRoom(into.things, MOST_THINGS) && readThing();
            }
            if (stands(W_FOLLOWS)) {
                return hasRoom(into.follows, MOST_FOLLOWS) && readFollows();
            }
            if (stands(W_MASTER)) {
                return hasRoom(into.masters, MOST_MASTERS) && readMaster();
            }
            if (stands(W_LAW)) {
                next();
                return readLaw();
            }
            if (stands(W_SAYS)) {
                return hasRoom(into.sayings, MOST_SAYINGS) && readSaying();
            }
            if (stands(W_CHILD)) {
                return hasRoom(into.children, MOST_CHILDREN) && readChild();
            }
            if (stands(W_TRIAL)) {
                next();
                return readTrial();
            }
            return fail(FORM);
        }

        private boolean readThing() {
            if (!newName(A_THING, into.things) || !passWord(W_ANSWERS) || !isWhole(2, MOST_ANSWERS)) {
                return false;
            }
            if (into.count * worth > MOST_WAYS) {
                return fail(WAYS);
            }
            into.answers[into.things] = worth;
            into.count *= worth;
            into.things++;
            next();
            return true;
        }

        private boolean readFollows() {
            int line = into.follows;
            if (!isNameOf(A_THING)) {
                return false;
            }
            into.ifThing[line] = found;
            next();
            if (!isAnswerOf(into.ifThing[line])) {
                return false;
            }
            into.ifAnswer[line] = worth;
            next();
            if (token != COMMA) {
                return fail(FORM);
            }
            next();
            if (!isNameOf(A_THING)) {
                return false;
            }
            if (found == into.ifThing[line]) {
                return fail(TOLD_AGAIN);
            }
            into.thenThing[line] = found;
            next();
            if (!isAnswerOf(into.thenThing[line])) {
                return false;
            }
            into.thenAnswer[line] = worth;
            into.follows++;
            next();
            return true;
        }

        private boolean readMaster() {
            if (!newName(A_MASTER, into.masters)) {
                return false;
            }
            int kind = kindThatStands();
            if (kind < 0) {
                return fail(FORM);
            }
            into.kind[into.masters] = kind;
            into.masters++;
            next();
            return true;
        }

        private int kindThatStands() {
            if (stands(W_PLAIN)) {
                return PLAIN;
            }
            if (stands(W_EVER)) {
                return EVER;
            }
            if (stands(W_BLIND)) {
                return BLIND;
            }
            return stands(W_CHANGE) ? CHANGE : NONE;
        }

        private boolean readLaw() {
            int law = lawThatStands();
            if (law == 0) {
                return fail(FORM);
            }
            if ((into.laws & law) != 0) {
                return fail(TOLD_AGAIN);
            }
            into.laws |= law;
            next();
            if (law != LAW_WRONG) {
                return true;
            }
            if (!isWhole(0, MOST_THINGS)) {
                return false;
            }
            into.wrongLimit = worth;
            next();
            return true;
        }

        private int lawThatStands() {
            if (stands(W_PAIR)) {
                return LAW_PAIR;
            }
            if (stands(W_WRONG)) {
                return LAW_WRONG;
            }
            return stands(W_RUNS) ? LAW_RUNS : 0;
        }

        private boolean readSaying() {
            int line = into.sayings;
            if (!isNameOf(A_MASTER)) {
                return false;
            }
            into.by[line] = found;
            next();
            if (!isNameOf(A_THING)) {
                return false;
            }
            into.of[line] = found;
            next();
            if (!isAnswerOf(into.of[line])) {
                return false;
            }
            into.answer[line] = worth;
            into.sayings++;
            next();
            return true;
        }

        private boolean readChild() {
            if (!newName(A_CHILD, into.children) || !passWord(W_HEARS) || !isNameOf(A_MASTER)) {
                return false;
            }
            int heard = 1 << found;
            next();
            for (int more = 0; more < MOST_MASTERS && token == COMMA; more++) {
                next();
                if (!isNameOf(A_MASTER)) {
                    return false;
                }
                if ((heard >> found & 1) != 0) {
                    return fail(TOLD_AGAIN);
                }
                heard |= 1 << found;
                next();
            }
            into.hears[into.children] = heard;
            into.children++;
            return true;
        }

        private boolean readTrial() {
            if (!isNameOf(A_THING)) {
                return false;
            }
            int thing = found;
            if (into.cost[thing] != 0) {
                return fail(TOLD_AGAIN);
            }
            next();
            if (!passWord(W_COST) || !isWhole(1, 99)) {
                return false;
            }
            into.cost[thing] = worth;
            into.trials++;
            next();
            return true;
        }

        private boolean fail(int number) {
            fault = number;
            return false;
        }

        private boolean hasRoom(int have, int most) {
            if (have >= most) {
                return fail(MANY);
            }
            next();
            return true;
        }

        private boolean passWord(long word) {
            if (!stands(word)) {
                return fail(FORM);
            }
            next();
            return true;
        }

        private boolean isWhole(int least, int most) {
            if (token != WHOLE) {
                return fail(FORM);
            }
            return worth >= least && worth <= most || fail(BOUNDS);
        }

        private boolean isAnswerOf(int thing) {
            return isWhole(0, into.answers[thing] - 1);
        }

        private boolean isNameOf(int sort) {
            if (!isName()) {
                return fail(FORM);
            }
            int place = placeOfName();
            if (place < 0 || sorts[place] != sort) {
                return fail(NOT_TOLD);
            }
            found = numbers[place];
            return true;
        }

        private boolean newName(int sort, int number) {
            if (!isName()) {
                return fail(FORM);
            }
            if (placeOfName() >= 0) {
                return fail(TOLD_AGAIN);
            }
            if (told < MOST_NAMES) {
                names[told] = letters;
                sorts[told] = sort;
                numbers[told] = number;
                told++;
            }
            next();
            return true;
        }

        private int placeOfName() {
            for (int i = 0; i < told; i++) {
                if (names[i] == letters) {
                    return i;
                }
            }
            return NONE;
        }

        private boolean isName() {
            return token == WORD && !stands(W_THING) && !stands(W_FOLLOWS) && !stands(W_MASTER)
                && !stands(W_LAW) && !stands(W_SAYS) && !stands(W_CHILD) && !stands(W_TRIAL);
        }

        private boolean stands(long word) {
            return token == WORD && letters == word;
        }

        private void next() {
            while (at < end && text[at] == ' ') {
                at++;
            }
            from = at;
            if (at >= end) {
                token = END;
            } else if (text[at] >= 'a' && text[at] <= 'z') {
                nextWord();
            } else if (text[at] >= '0' && text[at] <= '9') {
                nextWhole();
            } else {
                token = text[at] == ';' ? SEMICOLON : text[at] == ',' ? COMMA : NO_TOKEN;
                at++;
            }
        }

        private void nextWord() {
            letters = 0L;
            while (at < end && text[at] >= 'a' && text[at] <= 'z') {
                letters = letters << 8 | text[at];
                at++;
            }
            token = at - from <= LONGEST_WORD ? WORD : NO_TOKEN;
        }

        private void nextWhole() {
            worth = 0;
            while (at < end && text[at] >= '0' && text[at] <= '9') {
                worth = worth * 10 + text[at] - '0';
                at++;
            }
            token = at - from <= LONGEST_WHOLE ? WHOLE : NO_TOKEN;
        }
    }

    /** A set of WAYS: a bit for each. */
    private static final class Row {
        final long[] bits = new long[MOST_WORDS];
        int words;
        int members;

        void recount() {
            members = 0;
            for (int w = 0; w < words; w++) {
                members += Long.bitCount(bits[w]);
            }
        }

        boolean has(int way) {
            return (bits[way >> 6] >>> (way & 63) & 1L) != 0L;
        }

        void copy(Row other) {
            words = other.words;
            members = other.members;
            for (int w = 0; w < words; w++) {
                bits[w] = other.bits[w];
            }
        }

        /** The i-th of its WAYS, by numbers. */
        int memberAt(int i) {
            int behind = i;
            for (int w = 0; w < words; w++) {
                int here = Long.bitCount(bits[w]);
                if (behind < here) {
                    return w * 64 + bitAt(bits[w], behind);
                }
                behind -= here;
            }
            return NONE;
        }

        private static int bitAt(long word, int i) {
            long rest = word;
            for (int k = 0; k < i; k++) {
                rest &= rest - 1L;
            }
            return lowestBit(rest);
        }

        static int lowestBit(long word) {
            return Long.bitCount((word & -word) - 1L);
        }
    }

    /** All WAYS of a SCHOOL: which ANSWERS they have, 64 of them in a word. */
    private static final class Ways {
        School told = new School();
        int count;
        int words;
        private final int[] weight = new int[MOST_THINGS];
        /** For each ANSWER of each THING the WAYS that have it. */
        private final long[] truth = new long[MOST_THINGS * MOST_ANSWERS * MOST_WORDS];
        /** The WAYS in which what follows is so. */
        final long[] following = new long[MOST_WORDS];

        void build(School school) {
            told = school;
            count = Math.min(school.count, MOST_WAYS);
            words = (count + 63) / 64;
            Arrays.fill(truth, 0L);
            int weightSoFar = 1;
            for (int t = told.things - 1; t >= 0; t--) {
                weight[t] = weightSoFar;
                spreadAnswers(t);
                weightSoFar *= told.answers[t];
            }
            for (int w = 0; w < words; w++) {
                following[w] = followingWord(w);
            }
        }

        private void spreadAnswers(int thing) {
            int answer = 0;
            int same = 0;
            for (int way = 0; way < count; way++) {
                truth[rowOf(thing, answer) + (way >> 6)] |= 1L << (way & 63);
                same++;
                if (same == weight[thing]) {
                    same = 0;
                    answer = answer + 1 < told.answers[thing] ? answer + 1 : 0;
                }
            }
        }

        private long followingWord(int w) {
            int rest = count - w * 64;
            long fit = rest >= 64 ? -1L : (1L << rest) - 1L;
            for (int f = 0; f < told.follows; f++) {
                fit &= ~truthWord(told.ifThing[f], told.ifAnswer[f], w)
                    | truthWord(told.thenThing[f], told.thenAnswer[f], w);
            }
            return fit;
        }

        private static int rowOf(int thing, int answer) {
            return (thing * MOST_ANSWERS + answer) * MOST_WORDS;
        }

        long truthWord(int thing, int answer, int w) {
            return truth[rowOf(thing, answer) + w];
        }

        /** The WAYS in which all that a MASTER says of a THING is right. */
        long allRightWord(int master, int thing, int w) {
            long fit = -1L;
            for (int i = 0; i < told.sayings; i++) {
                if (told.by[i] == master && told.of[i] == thing) {
                    fit &= truthWord(thing, told.answer[i], w);
                }
            }
            return fit;
        }

        int answerIn(int way, int thing) {
            return weight[thing] > 0 ? remainder(way / weight[thing], told.answers[thing]) : 0;
        }

        int membersWith(Row row, int thing, int answer) {
            int members = 0;
            int start = rowOf(thing, answer);
            for (int w = 0; w < row.words; w++) {
                members += Long.bitCount(row.bits[w] & truth[start + w]);
            }
            return members;
        }

        void keepOnly(Row row, int thing, int answer) {
            int start = rowOf(thing, answer);
            for (int w = 0; w < row.words; w++) {
                row.bits[w] &= truth[start + w];
            }
            row.recount();
        }

        /** ANSWERS that a THING has in some WAY of a row, as bits. */
        int answersIn(Row row, int thing) {
            int bits = 0;
            for (int a = 0; a < told.answers[thing]; a++) {
                int start = rowOf(thing, a);
                for (int w = 0; w < row.words; w++) {
                    if ((row.bits[w] & truth[start + w]) != 0L) {
                        bits |= 1 << a;
                        break;
                    }
                }
            }
            return bits;
        }

        /** THINGS that have one ANSWER in all WAYS of a row, as bits; none if the row has no WAY. */
        int sureIn(Row row) {
            int bits = 0;
            for (int t = 0; t < told.things; t++) {
                if (Integer.bitCount(answersIn(row, t)) == 1) {
                    bits |= 1 << t;
                }
            }
            return bits;
        }

        /** The ANSWER of most WAYS of a row, the least such; -2 if the row has no WAY. */
        int commonest(Row row, int thing) {
            int best = NEITHER;
            int most = 0;
            for (int a = 0; a < told.answers[thing]; a++) {
                int members = membersWith(row, thing, a);
                if (members > most) {
                    most = members;
                    best = a;
                }
            }
            return best;
        }
    }

    /** Counts up to 8 for 64 WAYS at once: a plane for each binary digit. */
    private static final class Tally {
        private final long[] planes = new long[4];

        void clear() {
            for (int p = 0; p < planes.length; p++) {
                planes[p] = 0L;
            }
        }

        void add(long ones) {
            long carry = ones;
            for (int p = 0; p < planes.length; p++) {
                long sum = planes[p] ^ carry;
                carry &= planes[p];
                planes[p] = sum;
            }
        }

        /** The WAYS that have been counted so often or less. */
        long atMost(int limit) {
            if (limit < 0) {
                return 0L;
            }
            long more = 0L;
            long same = -1L;
            for (int p = planes.length - 1; p >= 0; p--) {
                if ((limit >> p & 1) != 0) {
                    same &= planes[p];
                } else {
                    more |= same & planes[p];
                    same &= ~planes[p];
                }
            }
            return ~more;
        }

        int leastIn(long in) {
            for (int k = 0; k < MOST_THINGS; k++) {
                if ((in & atMost(k)) != 0L) {
                    return k;
                }
            }
            return MOST_THINGS;
        }

        int mostIn(long in) {
            for (int k = 0; k < MOST_THINGS; k++) {
                if ((in & ~atMost(k)) == 0L) {
                    return k;
                }
            }
            return MOST_THINGS;
        }
    }

    /** Judges which WAYS are LAWFUL by some sayings and some laws alone. */
    private static final class Court {
        final Ways ways = new Ways();
        private final Tally tally = new Tally();
        private int laws;
        /** MASTERS, as bits, that say something of more THINGS than law wrong lets them be wrong in. */
        private int watched;
        /** The sayings that are heard, and for each its MASTER's one before (-1: none) and its group. */
        private int heard;
        private final int[] said = new int[SAYING_ROOM];
        private final int[] before = new int[SAYING_ROOM];
        private final int[] groupOf = new int[SAYING_ROOM];
        private final long[] rights = new long[SAYING_ROOM];
        /** A group is all that one MASTER says of one THING. */
        private int groups;
        private final int[] groupMaster = new int[SAYING_ROOM];
        private final int[] groupThing = new int[SAYING_ROOM];
        private final long[] allRight = new long[SAYING_ROOM];
        private final long[] allWrong = new long[SAYING_ROOM];
        /** Groups of which law pair says that one is right and the other one wrong. */
        private int pairs;
        private final int[] pairOne = new int[MOST_THINGS];
        private final int[] pairOther = new int[MOST_THINGS];

        void judge(int sayings, int byLaws, Row into) {
            laws = byLaws;
            hear(sayings);
            pairUp();
            watch();
            into.words = ways.words;
            for (int w = 0; w < ways.words; w++) {
                into.bits[w] = lawfulWord(w);
            }
            into.recount();
        }

        private void hear(int sayings) {
            heard = 0;
            groups = 0;
            for (int i = 0; i < SAYING_ROOM; i++) {
                if ((sayings >> i & 1) != 0) {
                    hearOne(i);
                }
            }
        }

        private void hearOne(int saying) {
            School told = ways.told;
            int last = NONE;
            int group = groups;
            for (int k = 0; k < heard; k++) {
                if (told.by[said[k]] == told.by[saying]) {
                    last = k;
                    group = told.of[said[k]] == told.of[saying] ? groupOf[k] : group;
                }
            }
            if (group == groups) {
                groupMaster[group] = told.by[saying];
                groupThing[group] = told.of[saying];
                groups++;
            }
            said[heard] = saying;
            before[heard] = last;
            groupOf[heard] = group;
            heard++;
        }

        private void pairUp() {
            pairs = 0;
            if ((laws & LAW_PAIR) == 0) {
                return;
            }
            for (int t = 0; t < ways.told.things; t++) {
                pairUpThing(t);
            }
        }

        private void pairUpThing(int thing) {
            int one = NONE;
            int other = NONE;
            int speakers = 0;
            for (int g = 0; g < groups; g++) {
                if (groupThing[g] == thing && ways.told.kind[groupMaster[g]] != BLIND) {
                    one = other;
                    other = g;
                    speakers++;
                }
            }
            if (speakers == 2) {
                pairOne[pairs] = one;
                pairOther[pairs] = other;
                pairs++;
            }
        }

        private long lawfulWord(int w) {
            long fit = ways.following[w];
            for (int g = 0; g < groups; g++) {
                allRight[g] = -1L;
                allWrong[g] = -1L;
            }
            for (int k = 0; k < heard; k++) {
                long right = ways.truthWord(ways.told.of[said[k]], ways.told.answer[said[k]], w);
                rights[k] = right;
                allRight[groupOf[k]] &= right;
                allWrong[groupOf[k]] &= ~right;
                fit &= fitByKind(k);
            }
            for (int p = 0; p < pairs; p++) {
                int one = pairOne[p];
                int other = pairOther[p];
                fit &= allRight[one] & allWrong[other] | allWrong[one] & allRight[other];
            }
            return watched != 0 ? fit & fewWrongs() : fit;
        }

        private long fitByKind(int k) {
            int kind = ways.told.kind[ways.told.by[said[k]]];
            if (kind == EVER) {
                return ~rights[k];
            }
            if (before[k] >= 0) {
                long last = rights[before[k]];
                if (kind == CHANGE) {
                    return last ^ rights[k];
                }
                if (kind == PLAIN && (laws & LAW_RUNS) != 0) {
                    return last | rights[k];
                }
            }
            return -1L;
        }

        private void watch() {
            watched = 0;
            if ((laws & LAW_WRONG) == 0) {
                return;
            }
            for (int m = 0; m < ways.told.masters; m++) {
                int spoken = 0;
                for (int g = 0; g < groups; g++) {
                    spoken += groupMaster[g] == m ? 1 : 0;
                }
                if (ways.told.kind[m] == PLAIN && spoken > ways.told.wrongLimit) {
                    watched |= 1 << m;
                }
            }
        }

        private long fewWrongs() {
            long fit = -1L;
            for (int m = 0; m < ways.told.masters; m++) {
                if ((watched >> m & 1) != 0) {
                    tally.clear();
                    for (int g = 0; g < groups; g++) {
                        if (groupMaster[g] == m) {
                            tally.add(~allRight[g]);
                        }
                    }
                    fit &= tally.atMost(ways.told.wrongLimit);
                }
            }
            return fit;
        }
    }

    /** The PROOFS of all THINGS of a SCHOOL, sought once. */
    private static final class Proofs {
        private final Row row = new Row();
        boolean known;
        private int open;
        /** The sayings, as bits; -2 if there is no PROOF. */
        final int[] by = new int[MOST_THINGS];

        void prepare(Court court) {
            if (known) {
                return;
            }
            known = true;
            Arrays.fill(by, NEITHER);
            open = (1 << court.ways.told.things) - 1;
            proveBy(court, 0);
            int sayings = court.ways.told.sayings;
            for (int i = 0; i < sayings; i++) {
                proveBy(court, 1 << i);
            }
            for (int i = 0; i < sayings; i++) {
                for (int j = 0; j < i; j++) {
                    proveBy(court, 1 << i | 1 << j);
                }
            }
            for (int i = 0; i < sayings; i++) {
                for (int j = 0; j < i; j++) {
                    for (int k = 0; k < j; k++) {
                        proveBy(court, 1 << i | 1 << j | 1 << k);
                    }
                }
            }
        }

        /** Fewer sayings come first, and of as many the least bits: the first that prove a THING are kept. */
        private void proveBy(Court court, int sayings) {
            if (open == 0) {
                return;
            }
            court.judge(sayings, court.ways.told.laws, row);
            int proved = court.ways.sureIn(row) & open;
            for (int t = 0; t < MOST_THINGS; t++) {
                if ((proved >> t & 1) != 0) {
                    by[t] = sayings;
                }
            }
            open &= ~proved;
        }
    }

    /**
     * The best PLANS. A state tells for each THING worth a trial whether it is untried (digit 0)
     * or which ANSWER came out (one more than it); so what follows a state has a greater number.
     */
    private static final class Plan {
        boolean known;
        boolean can;
        int worstCost;
        int worstThing;
        int totalCost;
        int totalThing;
        private int slots;
        private int states;
        private final int[] thing = new int[MOST_THINGS];
        private final int[] cost = new int[MOST_THINGS];
        private final int[] digits = new int[MOST_THINGS];
        private final int[] place = new int[MOST_THINGS];
        private final int[] digit = new int[MOST_THINGS];
        /** For each state its WORLDS, its least cost at worst, and its least cost by all WORLDS together. */
        private int[] held = new int[0];
        private int[] worst = new int[0];
        private int[] total = new int[0];

        void prepare(Ways ways, Row worlds) {
            if (known) {
                return;
            }
            known = true;
            layOut(ways.told, ways.sureIn(worlds));
            makeRoom();
            can = fillLast(ways, worlds);
            if (can) {
                solve();
            }
        }

        /** A trial of a SURE THING tells nothing and costs something, so it is in no best PLAN. */
        private void layOut(School told, int sures) {
            slots = 0;
            states = 1;
            for (int t = 0; t < told.things; t++) {
                if (told.cost[t] > 0 && (sures >> t & 1) == 0) {
                    thing[slots] = t;
                    cost[slots] = told.cost[t];
                    digits[slots] = told.answers[t] + 1;
                    place[slots] = states;
                    states *= digits[slots];
                    slots++;
                }
            }
        }

        /** Room is doubled where it must grow, so that many SCHOOLS take little more than the greatest. */
        private void makeRoom() {
            if (held.length < states) {
                int length = Math.max(states, Math.min(2 * held.length, MOST_STATES));
                held = new int[length];
                worst = new int[length];
                total = new int[length];
            }
            Arrays.fill(held, 0);
        }

        /** Whether all trials together tell each WORLD from each other one. */
        private boolean fillLast(Ways ways, Row worlds) {
            boolean apart = true;
            for (int w = 0; w < worlds.words; w++) {
                long rest = worlds.bits[w];
                for (int k = 0; k < 64 && rest != 0L; k++) {
                    int state = lastState(ways, w * 64 + Row.lowestBit(rest));
                    held[state]++;
                    apart = apart && held[state] == 1;
                    rest &= rest - 1L;
                }
            }
            return apart;
        }

        private int lastState(Ways ways, int way) {
            int state = 0;
            for (int k = 0; k < slots; k++) {
                state += (ways.answerIn(way, thing[k]) + 1) * place[k];
            }
            return state;
        }

        private void solve() {
            for (int k = 0; k < slots; k++) {
                digit[k] = digits[k] - 1;
            }
            for (int state = states - 1; state >= 0; state--) {
                worst[state] = 0;
                total[state] = 0;
                worstThing = NEITHER;
                totalThing = NEITHER;
                addUp(state);
                if (held[state] > 1) {
                    choose(state);
                }
                countDown();
            }
            worstCost = worst[0];
            totalCost = total[0];
        }

        private void countDown() {
            for (int k = 0; k < slots; k++) {
                if (digit[k] > 0) {
                    digit[k]--;
                    return;
                }
                digit[k] = digits[k] - 1;
            }
        }

        private void addUp(int state) {
            for (int k = 0; k < slots; k++) {
                if (digit[k] == 0) {
                    int sum = 0;
                    for (int d = 1; d < digits[k]; d++) {
                        sum += held[state + d * place[k]];
                    }
                    held[state] = sum;
                    return;
                }
            }
        }

        private void choose(int state) {
            worst[state] = VERY_MUCH;
            total[state] = VERY_MUCH;
            for (int k = 0; k < slots; k++) {
                if (digit[k] == 0) {
                    tryFirst(state, k);
                }
            }
        }

        private void tryFirst(int state, int k) {
            int top = 0;
            int sum = 0;
            for (int d = 1; d < digits[k]; d++) {
                int then = state + d * place[k];
                top = Math.max(top, worst[then]);
                sum += total[then];
            }
            if (cost[k] + top < worst[state]) {
                worst[state] = cost[k] + top;
                worstThing = thing[k];
            }
            if (cost[k] * held[state] + sum < total[state]) {
                total[state] = cost[k] * held[state] + sum;
                totalThing = thing[k];
            }
        }
    }

    /** A hidden WAY, what of it has been tried, and MARKS to go back to. */
    private static final class Term {
        int seed;
        int hidden = NONE;
        int facts;
        int costs;
        int marks;
        private final int[] keptSeed = new int[MOST_MARKS];
        private final int[] keptHidden = new int[MOST_MARKS];
        private final int[] keptFacts = new int[MOST_MARKS];
        private final int[] keptCosts = new int[MOST_MARKS];

        void begin() {
            seed = 0;
            hide(NONE);
            marks = 0;
        }

        void hide(int way) {
            hidden = way;
            facts = 0;
            costs = 0;
        }

        boolean isFact(int thing) {
            return (facts >> thing & 1) != 0;
        }

        int keep() {
            int number = marks;
            keptSeed[number] = seed;
            keptHidden[number] = hidden;
            keptFacts[number] = facts;
            keptCosts[number] = costs;
            marks++;
            return number;
        }

        void restore(int number) {
            seed = keptSeed[number];
            hidden = keptHidden[number];
            facts = keptFacts[number];
            costs = keptCosts[number];
        }
    }
}
