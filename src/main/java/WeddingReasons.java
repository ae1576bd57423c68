import java.util.Arrays;

/**
 * A cautious deanery where no wedding is lawful unless somebody objects and is got round.
 * What each call answers is told in the document, promise by promise.
 */
public final class WeddingReasons {
    public static final int NONE = -1, UNKNOWN = -1000000001, OUTSIDE = -1000000002, NOT = -1000000003, FULL = -1000000004;

    private static final int MOST_COUPLES = 6;
    private static final int MOST_OBJECTORS = 6;
    private static final int REASONS = 5;
    private static final int MOST_AGAINST = 20;
    private static final int MOST_ANSWER = 99;
    private static final int MOST_SKILL = 40;
    private static final int MOST_YEARS_AT_ONCE = 60;
    private static final int LAST_YEAR = 9000;

    private static final int UNCLE = 0;
    private static final int MOTHER = 1;
    private static final int RIVAL = 2;
    private static final int STRANGER = 3;

    private static final int WAITS = 0;
    private static final int WED = 1;
    private static final int HOME = 2;

    private static final int MATCH_STRENGTH = -2;

    private final Parish now = new Parish();
    private final Reader reader = new Reader();
    private final Past past = new Past();
    private final Images images = new Images();
    private final Draws draws = new Draws();
    private final Matching matching = new Matching();
    private final Round round = new Round();
    private final Cover cover = new Cover();
    private final Sayings sayings = new Sayings();
    private final Book book = new Book();

    public WeddingReasons() {
    }

    // ---- the deanery

    public int feed(int letter) {
        if (isOutside(letter, 0, 255)) {
            return OUTSIDE;
        }
        return reader.isFull() ? FULL : reader.put(letter);
    }

    public int deanery() {
        int fault = reader.readText();
        if (fault != 0) {
            return -10 - fault;
        }
        now.copyFrom(reader.made.row, 0);
        past.forget();
        images.forget();
        sayings.clear();
        book.clear();
        return now.couples();
    }

    public int fault() {
        return reader.faultAt;
    }

    public int told(int what) {
        switch (what) {
            case 0: return now.least();
            case 1: return now.couples();
            case 2: return now.objectors();
            case 3: return reader.length;
            case 4: return now.years();
            case 5: return now.couplesThat(WAITS);
            case 6: return now.couplesThat(WED);
            case 7: return now.couplesThat(HOME);
            case 8: return now.stood();
            case 9: return now.boxed();
            case 10: return Tried.plain(now);
            case 11: return Tried.firmest(now);
            case 12: return cover.few(now);
            case 13: return sayings.count;
            case 14: return book.count;
            case 15: return past.count;
            default: return OUTSIDE;
        }
    }

    public int couple(int c, int what) {
        if (!now.hasCouple(c)) {
            return UNKNOWN;
        }
        if (!isOutside(what, 0, REASONS - 1)) {
            return now.weight(c, what);
        }
        switch (what) {
            case 5: return now.answer(c);
            case 6: return now.fate(c);
            case 7: return now.fate(c) == WED ? now.strong(c) : NONE;
            case 8: return Tried.can(now, c);
            case 9: return Tried.weakest(now, c);
            default: return OUTSIDE;
        }
    }

    public int objector(int o, int what) {
        if (!now.hasObjector(o)) {
            return UNKNOWN;
        }
        switch (what) {
            case 0: return now.kind(o);
            case 1: return now.skill(o);
            case 2: return now.known(o);
            case 3: return now.hasStood(o) ? 1 : 0;
            default: return OUTSIDE;
        }
    }

    public int box(int i, int what) {
        if (isOutside(what, 0, Parish.BOX_WIDTH - 1)) {
            return OUTSIDE;
        }
        return isOutside(i, 0, now.boxed() - 1) ? NONE : now.fromBox(i, what);
    }

    public int against(int o, int c, int what) {
        if (!now.hasObjector(o) || !now.hasCouple(c)) {
            return UNKNOWN;
        }
        switch (what) {
            case 0: return now.strengthIn(o, c, 0);
            case 1: return now.reasonOf(o, c);
            default: return OUTSIDE;
        }
    }

    // ---- what is done

    public int stand(int o, int c) {
        if (!now.hasObjector(o) || !now.hasCouple(c)) {
            return UNKNOWN;
        }
        if (!now.mayStand(o, c)) {
            return NOT;
        }
        past.remember(now);
        now.standUp(o, c);
        return now.fate(c) == WED ? 1 : 0;
    }

    public int year(int n) {
        int refusal = refusalOfYears(n);
        if (refusal != 0) {
            return refusal;
        }
        past.remember(now);
        for (int i = 0; i < n; i++) {
            now.passYear();
        }
        return now.years();
    }

    public int teach(int o, int reason, boolean is) {
        if (!now.hasObjector(o)) {
            return UNKNOWN;
        }
        if (isOutside(reason, 0, REASONS - 1)) {
            return OUTSIDE;
        }
        past.remember(now);
        now.setKnown(o, is ? now.known(o) | 1 << reason : now.known(o) & ~(1 << reason));
        return now.known(o);
    }

    public int hear(int c, int reason, int w) {
        if (!now.hasCouple(c)) {
            return UNKNOWN;
        }
        if (isOutside(reason, 0, REASONS - 1) || isOutside(w, 0, MOST_AGAINST)) {
            return OUTSIDE;
        }
        int was = now.weight(c, reason);
        past.remember(now);
        now.setWeight(c, reason, w);
        return was;
    }

    public int practise(int c, int a) {
        if (!now.hasCouple(c)) {
            return UNKNOWN;
        }
        if (isOutside(a, 0, MOST_ANSWER)) {
            return OUTSIDE;
        }
        if (!now.waits(c)) {
            return NOT;
        }
        int was = now.answer(c);
        past.remember(now);
        now.setAnswer(c, a);
        return was;
    }

    public int sour(int o, int s) {
        if (!now.hasObjector(o)) {
            return UNKNOWN;
        }
        if (isOutside(s, 0, MOST_SKILL)) {
            return OUTSIDE;
        }
        int was = now.skill(o);
        past.remember(now);
        now.setSkill(o, s);
        return was;
    }

    public int drift(int n) {
        int refusal = refusalOfYears(n);
        if (refusal != 0) {
            return refusal;
        }
        past.remember(now);
        for (int i = 0; i < n; i++) {
            draws.stir(now);
            now.passYear();
        }
        return now.years();
    }

    public int undo() {
        if (past.count == 0) {
            return NOT;
        }
        past.restore(now);
        return past.count;
    }

    // ---- tried

    public int soonest(int c, int o) {
        if (!now.hasCouple(c) || !now.hasObjector(o)) {
            return UNKNOWN;
        }
        return now.waits(c) ? Tried.firstYear(now, c, o) : NOT;
    }

    public int match(int c) {
        if (c != NONE && c != MATCH_STRENGTH && !now.hasCouple(c)) {
            return UNKNOWN;
        }
        matching.weigh(now);
        if (c == NONE) {
            return matching.howMany();
        }
        return c == MATCH_STRENGTH ? matching.together() : matching.objectorFor(now, c);
    }

    public int rounds(int o, int set, int what) {
        if (!now.hasObjector(o) || !isSetOf(set, now.couples())) {
            return UNKNOWN;
        }
        if (isOutside(what, 0, 1)) {
            return OUTSIDE;
        }
        if ((set & ~now.couplesThat(WAITS)) != 0 || Integer.bitCount(set) > Round.MOST) {
            return NOT;
        }
        round.weigh(now, o, set);
        return what == 0 ? round.howMany(set) : round.figures(now, o, set);
    }

    public int holds(int c, int set) {
        if (!now.hasCouple(c) || !isSetOf(set, now.objectors())) {
            return UNKNOWN;
        }
        return Tried.safeAnswer(now, c, set);
    }

    public int dry(int n, int q) {
        if (isOutside(n, 0, 60) || isOutside(q, 0, 100)) {
            return OUTSIDE;
        }
        return Draws.oddsOfDry(n, q);
    }

    // ---- what is said

    public int say(int kind, int s, int v) {
        if (isOutside(kind, UNCLE, RIVAL) || isOutside(s, 0, MOST_SKILL) || isOutside(v, 0, 99)) {
            return OUTSIDE;
        }
        return sayings.isFull() ? FULL : sayings.add(kind, s, v);
    }

    public int weights(int what) {
        switch (what) {
            case 0: return sayings.howManyFit();
            case 1: return sayings.leastThatFits();
            case 2: return sayings.greatestThatFits();
            default: return OUTSIDE;
        }
    }

    public int ask() {
        return sayings.bestKind();
    }

    public int write(int c, int answer) {
        if (!now.hasCouple(c)) {
            return UNKNOWN;
        }
        if (isOutside(answer, 0, MOST_ANSWER)) {
            return OUTSIDE;
        }
        return book.isFull() ? FULL : book.add(c, answer);
    }

    public int tear() {
        int both = sayings.count + book.count;
        sayings.clear();
        book.clear();
        return both;
    }

    public int judge() {
        return book.firstWrong(now);
    }

    // ---- draws, images

    public int seed(int v) {
        if (v < 0) {
            return OUTSIDE;
        }
        int was = draws.state;
        draws.state = v;
        return was;
    }

    public int keep(int i) {
        if (isOutside(i, 0, Images.MOST - 1)) {
            return UNKNOWN;
        }
        images.store(i, now, draws.state);
        past.forget();
        return 1;
    }

    public int goBack(int i) {
        if (isOutside(i, 0, Images.MOST - 1)) {
            return UNKNOWN;
        }
        if (!images.isKept(i)) {
            return NOT;
        }
        draws.state = images.fetch(i, now);
        past.forget();
        return 1;
    }

    private int refusalOfYears(int n) {
        if (isOutside(n, 1, MOST_YEARS_AT_ONCE)) {
            return OUTSIDE;
        }
        if (now.least() == 0) {
            return NOT;
        }
        return now.years() > LAST_YEAR ? FULL : 0;
    }

    private static boolean isOutside(int v, int low, int high) {
        return v < low || v > high;
    }

    /** Negative sets have bits of what there is not. */
    private static boolean isSetOf(int set, int n) {
        return set >= 0 && set < 1 << n;
    }

    private static int strengthBy(int kind, int skill, int w) {
        switch (kind) {
            case UNCLE: return w + skill;
            case MOTHER: return 2 * w + skill / 2;
            case RIVAL: return w * skill / 4;
            default: return skill;
        }
    }

    /**
     * All that section 2 tells, in one row, so that undoing and images copy it whole.
     * Its callers see to it that couples, objectors and reasons are there.
     */
    private static final class Parish {
        static final int BOX_WIDTH = 5;
        private static final int BOX_MOST = 20;

        private static final int LEAST = 0;
        private static final int COUPLES = 1;
        private static final int OBJECTORS = 2;
        private static final int YEARS = 3;
        private static final int STOOD = 4;
        private static final int BOXED = 5;
        private static final int ANSWER = 6;
        private static final int FATE = ANSWER + MOST_COUPLES;
        private static final int STRONG = FATE + MOST_COUPLES;
        private static final int WEIGHT = STRONG + MOST_COUPLES;
        private static final int KIND = WEIGHT + MOST_COUPLES * REASONS;
        private static final int SKILL = KIND + MOST_OBJECTORS;
        private static final int KNOWN = SKILL + MOST_OBJECTORS;
        private static final int BOX = KNOWN + MOST_OBJECTORS;
        static final int SIZE = BOX + BOX_MOST * BOX_WIDTH;

        final int[] row = new int[SIZE];

        void clear() {
            Arrays.fill(row, 0);
        }

        void copyFrom(int[] from, int at) {
            System.arraycopy(from, at, row, 0, SIZE);
        }

        void copyTo(int[] to, int at) {
            System.arraycopy(row, 0, to, at, SIZE);
        }

        /** 0 is no deanery: a deanery's least is 1 or more. */
        int least() {
            return row[LEAST];
        }

        void setLeast(int least) {
            row[LEAST] = least;
        }

        int couples() {
            return row[COUPLES];
        }

        int objectors() {
            return row[OBJECTORS];
        }

        int years() {
            return row[YEARS];
        }

        int stood() {
            return row[STOOD];
        }

        int boxed() {
            return row[BOXED];
        }

        boolean hasCouple(int c) {
            return c >= 0 && c < row[COUPLES];
        }

        boolean hasObjector(int o) {
            return o >= 0 && o < row[OBJECTORS];
        }

        int answer(int c) {
            return row[ANSWER + c];
        }

        void setAnswer(int c, int a) {
            row[ANSWER + c] = a;
        }

        int fate(int c) {
            return row[FATE + c];
        }

        boolean waits(int c) {
            return row[FATE + c] == WAITS;
        }

        int strong(int c) {
            return row[STRONG + c];
        }

        int weight(int c, int reason) {
            return row[WEIGHT + c * REASONS + reason];
        }

        void setWeight(int c, int reason, int w) {
            row[WEIGHT + c * REASONS + reason] = w;
        }

        int kind(int o) {
            return row[KIND + o];
        }

        int skill(int o) {
            return row[SKILL + o];
        }

        void setSkill(int o, int s) {
            row[SKILL + o] = s;
        }

        int known(int o) {
            return row[KNOWN + o];
        }

        void setKnown(int o, int set) {
            row[KNOWN + o] = set;
        }

        boolean hasStood(int o) {
            return (row[STOOD] >> o & 1) == 1;
        }

        int fromBox(int i, int what) {
            return row[BOX + i * BOX_WIDTH + what];
        }

        void addCouple() {
            row[COUPLES]++;
        }

        void addObjector(int kind, int skill, int known) {
            int o = row[OBJECTORS]++;
            row[KIND + o] = kind;
            row[SKILL + o] = skill;
            row[KNOWN + o] = known;
        }

        int couplesThat(int fate) {
            int set = 0;
            for (int c = 0; c < couples(); c++) {
                if (fate(c) == fate) {
                    set |= 1 << c;
                }
            }
            return set;
        }

        int reasonOf(int o, int c) {
            int best = NONE;
            if (kind(o) == STRANGER) {
                return best;
            }
            for (int r = 0; r < REASONS; r++) {
                boolean knows = (known(o) >> r & 1) == 1;
                if (knows && (best == NONE || weight(c, r) > weight(c, best))) {
                    best = r;
                }
            }
            return best;
        }

        /** The strength some years on, if nothing else is done. */
        int strengthIn(int o, int c, int years) {
            int reason = reasonOf(o, c);
            int w = reason == NONE ? 0 : weight(c, reason);
            int grown = kind(o) == UNCLE ? Math.min(MOST_SKILL, skill(o) + years) : skill(o);
            return strengthBy(kind(o), grown, w);
        }

        boolean objects(int o, int c) {
            return strengthIn(o, c, 0) >= least();
        }

        /** Whether they would be wed some years on; who stood up this year counts too. */
        boolean wedIn(int o, int c, int years) {
            int strength = strengthIn(o, c, years);
            int answer = Math.min(MOST_ANSWER, answer(c) + years);
            return waits(c) && strength >= least() && answer >= strength;
        }

        boolean mayStand(int o, int c) {
            return waits(c) && !hasStood(o) && objects(o, c);
        }

        void standUp(int o, int c) {
            int strength = strengthIn(o, c, 0);
            row[STRONG + c] = strength;
            row[FATE + c] = wedIn(o, c, 0) ? WED : HOME;
            row[STOOD] |= 1 << o;
            putIntoBox(o, c, strength);
        }

        private void putIntoBox(int o, int c, int strength) {
            for (int i = SIZE - 1; i >= BOX + BOX_WIDTH; i--) {
                row[i] = row[i - BOX_WIDTH];
            }
            row[BOX] = years();
            row[BOX + 1] = c;
            row[BOX + 2] = o;
            row[BOX + 3] = reasonOf(o, c);
            row[BOX + 4] = strength;
            row[BOXED] = Math.min(BOX_MOST, row[BOXED] + 1);
        }

        void passYear() {
            for (int c = 0; c < couples(); c++) {
                if (waits(c)) {
                    setAnswer(c, Math.min(MOST_ANSWER, answer(c) + 1));
                }
            }
            for (int o = 0; o < objectors(); o++) {
                if (kind(o) == UNCLE) {
                    setSkill(o, Math.min(MOST_SKILL, skill(o) + 1));
                }
            }
            row[STOOD] = 0;
            row[YEARS]++;
        }
    }

    /** The text, and how it is read into a parish with its first fault. */
    private static final class Reader {
        private static final int MOST_LETTERS = 240;
        private static final int CANNOT_STAND = 1;
        private static final int BAD_NUMBER = 2;
        private static final int TOO_OFTEN = 3;
        private static final int MOST_FIGURES = 3;

        final Parish made = new Parish();
        int length = 0;
        int faultAt = NONE;
        private final int[] text = new int[MOST_LETTERS];
        private int at = 0;
        private int faultNumber = 0;

        boolean isFull() {
            return length >= MOST_LETTERS;
        }

        int put(int letter) {
            text[length] = letter;
            length++;
            return length;
        }

        /** The number of the fault, 0 for none; the text is empty then. */
        int readText() {
            at = 0;
            faultNumber = 0;
            faultAt = NONE;
            made.clear();
            skipBlanks();
            for (int i = 0; i < MOST_LETTERS && faultNumber == 0 && at < length; i++) {
                readClause();
                skipBlanks();
            }
            length = 0;
            return faultNumber;
        }

        private void readClause() {
            int word = text[at];
            int misplaced = faultOfWord(word);
            if (misplaced != 0) {
                fail(misplaced, at);
                return;
            }
            at++;
            if (word == 'd') {
                readLeast();
            } else if (word == 'c') {
                readCouple();
            } else {
                readObjector();
            }
        }

        private int faultOfWord(int word) {
            boolean first = made.least() == 0;
            switch (word) {
                case 'd': return first ? 0 : TOO_OFTEN;
                case 'c': return faultOfMore(first, made.couples() < MOST_COUPLES);
                case 'o': return faultOfMore(first, made.objectors() < MOST_OBJECTORS);
                default: return CANNOT_STAND;
            }
        }

        private static int faultOfMore(boolean first, boolean isRoom) {
            if (first) {
                return CANNOT_STAND;
            }
            return isRoom ? 0 : TOO_OFTEN;
        }

        // Behind a fault the readers below go on but change nothing that is used.

        private void readLeast() {
            int least = number(1, 20);
            expect(';');
            made.setLeast(least);
        }

        private void readCouple() {
            int c = made.couples();
            made.setAnswer(c, number(0, 60));
            for (int r = 0; r < REASONS; r++) {
                if (r > 0) {
                    expect(',');
                }
                made.setWeight(c, r, number(0, MOST_AGAINST));
            }
            expect(';');
            made.addCouple();
        }

        private void readObjector() {
            int kind = number(UNCLE, STRANGER);
            int skill = number(0, 20);
            int known = number(0, (1 << REASONS) - 1);
            expect(';');
            made.addObjector(kind, skill, known);
        }

        private int number(int low, int high) {
            skipBlanks();
            int start = at;
            int value = 0;
            for (; at < length && isFigure(text[at]); at++) {
                // Longer numbers are a fault anyway, and must not wrap around.
                if (at - start < MOST_FIGURES) {
                    value = value * 10 + text[at] - '0';
                }
            }
            if (at == start) {
                fail(CANNOT_STAND, at);
            } else if (at - start > MOST_FIGURES || value < low || value > high) {
                fail(BAD_NUMBER, start);
            }
            return value;
        }

        private void expect(int letter) {
            skipBlanks();
            if (at < length && text[at] == letter) {
                at++;
            } else {
                fail(CANNOT_STAND, at);
            }
        }

        private void skipBlanks() {
            while (at < length && text[at] == ' ') {
                at++;
            }
        }

        private static boolean isFigure(int letter) {
            return letter >= '0' && letter <= '9';
        }

        /** Only the first fault counts. */
        private void fail(int number, int where) {
            if (faultNumber == 0) {
                faultNumber = number;
                faultAt = where;
            }
        }
    }

    /** What is tried from now without anything to remember. */
    private static final class Tried {
        private static final int MOST_YEARS_AHEAD = 200;

        static int can(Parish p, int c) {
            int set = 0;
            for (int o = 0; o < p.objectors(); o++) {
                if (p.wedIn(o, c, 0)) {
                    set |= 1 << o;
                }
            }
            return set;
        }

        static int firstYear(Parish p, int c, int o) {
            for (int years = 0; years <= MOST_YEARS_AHEAD; years++) {
                if (p.wedIn(o, c, years)) {
                    return years;
                }
            }
            return NONE;
        }

        static int safeAnswer(Parish p, int c, int objectors) {
            int answer = 0;
            for (int o = 0; o < p.objectors(); o++) {
                if ((objectors >> o & 1) == 1 && p.objects(o, c)) {
                    answer = Math.max(answer, p.strengthIn(o, c, 0));
                }
            }
            return answer;
        }

        static int plain(Parish p) {
            int everybody = (1 << p.objectors()) - 1;
            int set = 0;
            for (int c = 0; c < p.couples(); c++) {
                // An objection is of strength 1 or more, so 0 says that there is none.
                if (p.waits(c) && safeAnswer(p, c, everybody) == 0) {
                    set |= 1 << c;
                }
            }
            return set;
        }

        static int firmest(Parish p) {
            int best = NONE;
            for (int c = 0; c < p.couples(); c++) {
                if (p.fate(c) == WED && (best == NONE || p.strong(c) > p.strong(best))) {
                    best = c;
                }
            }
            return best;
        }

        static int weakest(Parish p, int c) {
            int best = NONE;
            for (int o = 0; o < p.objectors(); o++) {
                if (best == NONE || p.strengthIn(o, c, 0) < p.strengthIn(best, c, 0)) {
                    best = o;
                }
            }
            return best;
        }
    }

    /** The fewest objectors by whom all who wait could be wed. */
    private static final class Cover {
        private final int[] cans = new int[MOST_COUPLES];

        int few(Parish p) {
            for (int c = 0; c < p.couples(); c++) {
                cans[c] = Tried.can(p, c);
            }
            int best = NONE;
            for (int set = 0; set < 1 << p.objectors(); set++) {
                boolean fewer = best == NONE || Integer.bitCount(set) < Integer.bitCount(best);
                if (fewer && weddable(p, set)) {
                    best = set;
                }
            }
            return best;
        }

        private boolean weddable(Parish p, int objectors) {
            for (int c = 0; c < p.couples(); c++) {
                if (p.waits(c) && (cans[c] & objectors) == 0) {
                    return false;
                }
            }
            return true;
        }
    }

    /**
     * Couples to objectors. The best that the couples from c on can have, with the objectors
     * of a set taken, is kept as one number: a wedding counts more than all strength.
     */
    private static final class Matching {
        private static final int WEDDING = 10000;
        private static final int SETS = 1 << MOST_OBJECTORS;

        private final int[] best = new int[(MOST_COUPLES + 1) * SETS];
        private final int[] gains = new int[MOST_COUPLES * MOST_OBJECTORS];

        void weigh(Parish p) {
            weighPairs(p);
            Arrays.fill(best, 0);
            for (int c = p.couples() - 1; c >= 0; c--) {
                for (int taken = 0; taken < 1 << p.objectors(); taken++) {
                    best[c * SETS + taken] = bestFrom(p, c, taken);
                }
            }
        }

        private void weighPairs(Parish p) {
            for (int c = 0; c < p.couples(); c++) {
                for (int o = 0; o < p.objectors(); o++) {
                    int gain = p.wedIn(o, c, 0) ? WEDDING + p.strengthIn(o, c, 0) : 0;
                    gains[c * MOST_OBJECTORS + o] = gain;
                }
            }
        }

        private int bestFrom(Parish p, int c, int taken) {
            int most = best[(c + 1) * SETS + taken];
            for (int o = 0; o < p.objectors(); o++) {
                if (isFree(c, o, taken)) {
                    most = Math.max(most, valueOf(c, o, taken));
                }
            }
            return most;
        }

        private boolean isFree(int c, int o, int taken) {
            return gains[c * MOST_OBJECTORS + o] > 0 && (taken >> o & 1) == 0;
        }

        private int valueOf(int c, int o, int taken) {
            return gains[c * MOST_OBJECTORS + o] + best[(c + 1) * SETS + (taken | 1 << o)];
        }

        int howMany() {
            return best[0] / WEDDING;
        }

        int together() {
            return best[0] % WEDDING;
        }

        int objectorFor(Parish p, int couple) {
            int taken = 0;
            for (int c = 0; c < couple; c++) {
                int o = firstChoice(p, c, taken);
                taken |= o == NONE ? 0 : 1 << o;
            }
            return firstChoice(p, couple, taken);
        }

        private int firstChoice(Parish p, int c, int taken) {
            for (int o = 0; o < p.objectors(); o++) {
                if (isFree(c, o, taken) && valueOf(c, o, taken) == best[c * SETS + taken]) {
                    return o;
                }
            }
            return NONE;
        }
    }

    /** An objector's rounds: for each set of couples still to come, the most that can be wed. */
    private static final class Round {
        static final int MOST = 5;

        private final int[] best = new int[1 << MOST_COUPLES];

        void weigh(Parish p, int o, int set) {
            // The empty set's best is never written, and stays 0.
            for (int left = 1; left <= set; left++) {
                if ((left & ~set) == 0) {
                    best[left] = bestOf(p, o, set, left);
                }
            }
        }

        private int bestOf(Parish p, int o, int set, int left) {
            int most = 0;
            for (int c = 0; c < p.couples(); c++) {
                if ((left >> c & 1) == 1) {
                    most = Math.max(most, valueOf(p, o, c, set, left));
                }
            }
            return most;
        }

        private int valueOf(Parish p, int o, int c, int set, int left) {
            int years = Integer.bitCount(set) - Integer.bitCount(left);
            return best[left & ~(1 << c)] + (p.wedIn(o, c, years) ? 1 : 0);
        }

        int howMany(int set) {
            return best[set];
        }

        int figures(Parish p, int o, int set) {
            int figures = 0;
            int left = set;
            for (int i = 0; i < MOST && left != 0; i++) {
                int c = firstChoice(p, o, set, left);
                figures = figures * 10 + c + 1;
                left &= ~(1 << c);
            }
            return figures;
        }

        private int firstChoice(Parish p, int o, int set, int left) {
            for (int c = 0; c < p.couples(); c++) {
                if ((left >> c & 1) == 1 && valueOf(p, o, c, set, left) == best[left]) {
                    return c;
                }
            }
            return 0;
        }
    }

    /** What can be undone: the latest parishes in a ring, the oldest written over. */
    private static final class Past {
        private static final int MOST = 16;

        int count = 0;
        private int next = 0;
        private final int[] rows = new int[MOST * Parish.SIZE];

        void remember(Parish p) {
            p.copyTo(rows, next * Parish.SIZE);
            next = (next + 1) % MOST;
            count = Math.min(MOST, count + 1);
        }

        void restore(Parish p) {
            next = (next + MOST - 1) % MOST;
            count--;
            p.copyFrom(rows, next * Parish.SIZE);
        }

        void forget() {
            count = 0;
        }
    }

    private static final class Images {
        static final int MOST = 2;

        private final int[] rows = new int[MOST * Parish.SIZE];
        private final int[] seeds = new int[MOST];
        private int kept = 0;

        void store(int i, Parish p, int seed) {
            p.copyTo(rows, i * Parish.SIZE);
            seeds[i] = seed;
            kept |= 1 << i;
        }

        boolean isKept(int i) {
            return (kept >> i & 1) == 1;
        }

        /** The seed of the image. */
        int fetch(int i, Parish p) {
            p.copyFrom(rows, i * Parish.SIZE);
            return seeds[i];
        }

        void forget() {
            kept = 0;
        }
    }

    private static final class Draws {
        private static final long BILLION = 1000000000L;

        int state = 0;

        private int draw(int n) {
            state = (int) (state * 1103515245L + 12345L & 2147483647L);
            return n > 0 ? state / 65536 % n : 0;
        }

        /** What chance does ahead of a year. */
        void stir(Parish p) {
            if (p.couples() == 0 || p.objectors() == 0) {
                return;
            }
            int deed = draw(4);
            int c = draw(p.couples());
            int o = draw(p.objectors());
            if (deed == 0 && p.mayStand(o, c)) {
                p.standUp(o, c);
            } else if (deed == 1) {
                int reason = draw(REASONS);
                p.setWeight(c, reason, draw(MOST_AGAINST + 1));
            } else if (deed == 2) {
                p.setKnown(o, p.known(o) | 1 << draw(REASONS));
            }
        }

        static int oddsOfDry(int n, int q) {
            long odds = BILLION;
            for (int i = 0; i < n; i++) {
                odds = odds * q / 100;
            }
            return (int) odds;
        }
    }

    /** What was said of an unknown weight, and which weights fit it. */
    private static final class Sayings {
        private static final int MOST = 6;
        private static final int WIDTH = 3;
        private static final int ASKED_SKILL = 10;

        int count = 0;
        private final int[] said = new int[MOST * WIDTH];

        void clear() {
            count = 0;
        }

        boolean isFull() {
            return count >= MOST;
        }

        int add(int kind, int skill, int strength) {
            said[count * WIDTH] = kind;
            said[count * WIDTH + 1] = skill;
            said[count * WIDTH + 2] = strength;
            count++;
            return count;
        }

        private boolean fits(int w) {
            for (int i = 0; i < count * WIDTH; i += WIDTH) {
                if (strengthBy(said[i], said[i + 1], w) != said[i + 2]) {
                    return false;
                }
            }
            return true;
        }

        int howManyFit() {
            int many = 0;
            for (int w = 0; w <= MOST_AGAINST; w++) {
                many += fits(w) ? 1 : 0;
            }
            return many;
        }

        int leastThatFits() {
            for (int w = 0; w <= MOST_AGAINST; w++) {
                if (fits(w)) {
                    return w;
                }
            }
            return NONE;
        }

        int greatestThatFits() {
            for (int w = MOST_AGAINST; w >= 0; w--) {
                if (fits(w)) {
                    return w;
                }
            }
            return NONE;
        }

        int bestKind() {
            int best = NONE;
            int least = howManyFit();
            for (int kind = UNCLE; kind <= RIVAL; kind++) {
                int part = greatestPart(kind);
                if (part < least) {
                    least = part;
                    best = kind;
                }
            }
            return best;
        }

        private int greatestPart(int kind) {
            int greatest = 0;
            for (int w = 0; w <= MOST_AGAINST; w++) {
                if (fits(w)) {
                    greatest = Math.max(greatest, partOf(kind, w));
                }
            }
            return greatest;
        }

        private int partOf(int kind, int like) {
            int strength = strengthBy(kind, ASKED_SKILL, like);
            int part = 0;
            for (int w = 0; w <= MOST_AGAINST; w++) {
                part += fits(w) && strengthBy(kind, ASKED_SKILL, w) == strength ? 1 : 0;
            }
            return part;
        }
    }

    /** The book of answers, as somebody wrote them. */
    private static final class Book {
        private static final int MOST = 15;

        int count = 0;
        private final int[] couples = new int[MOST];
        private final int[] answers = new int[MOST];

        void clear() {
            count = 0;
        }

        boolean isFull() {
            return count >= MOST;
        }

        int add(int c, int answer) {
            couples[count] = c;
            answers[count] = answer;
            count++;
            return count;
        }

        int firstWrong(Parish p) {
            for (int i = 0; i < count; i++) {
                if (p.answer(couples[i]) != answers[i]) {
                    return i;
                }
            }
            return NONE;
        }
    }
}
