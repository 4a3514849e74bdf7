/** Things that begin and end, and what is said of them by people who have no word for when. */
public final class NoWhen {
    public static final int NONE = -1, BAD = -2, NO = -3, FULL = -4;

    /** What BAD is where NONE is an answer, or might be taken for one. */
    private static final int BAD_10 = -10;
    /** What ONE answers where there is no such mate. */
    private static final int NO_MATE = -5;

    private static final int MOST_THINGS = 6, MOST_ENDS = 12, MOST_SAYINGS = 8, MOST_BYTES = 200;
    private static final int PEOPLE = 4, IMAGES = 2, LAST_MINUTE = 99;

    /** A set of ENDS that holds no end without its beginning: 3 to the power of THINGS, at most. */
    private static final int MOST_SETS = 729;
    /** Each THING gives a MOMENT one END at most: two to the power of THINGS. */
    private static final int MOST_PARTS = 64;
    private static final int[] SETS = {1, 3, 9, 27, 81, 243, 729};
    /** The set of three THINGS' ENDS at each place: a digit of base 3 tells whether a THING is to come, lasts, is over. */
    private static final int[] SET_AT = {
        0, 1, 3, 4, 5, 7, 12, 13, 15,
        16, 17, 19, 20, 21, 23, 28, 29, 31,
        48, 49, 51, 52, 53, 55, 60, 61, 63};
    /** The place of each set of three THINGS' ENDS (a set with an end that never began is given any). */
    private static final int[] PLACE_OF = {
        0, 1, 0, 2, 3, 4, 3, 5, 0, 1, 0, 2, 6, 7, 6, 8,
        9, 10, 9, 11, 12, 13, 12, 14, 9, 10, 9, 11, 15, 16, 15, 17,
        0, 1, 0, 2, 3, 4, 3, 5, 0, 1, 0, 2, 6, 7, 6, 8,
        18, 19, 18, 20, 21, 22, 21, 23, 18, 19, 18, 20, 24, 25, 24, 26};
    private static final int ALL_BEGINNINGS = 0x555;

    private static final int AHEAD = 0, MEETS = 1, WHILE = 2, INSIDE = 3, BEGINS = 4, ENDS = 5, APART = 6, CROSS = 7;
    /** The words of THE TEXT behind the KINDS, which are words 0 to 7. */
    private static final int WORD_THINGS = 8, WORD_OF = 9, WORD_STORY = 10, WORD_BY = 11, WORDS = 12;

    /** The maker of what no SAYING demands, a bit behind those of the SAYINGS. */
    private static final int GIVEN = 1 << MOST_SAYINGS;

    private final History history = new History();
    private final History[] images = {new History(), new History()};
    private final boolean[] imageKept = new boolean[IMAGES];
    private final Paper paper = new Paper();
    private final Reader reader = new Reader();
    private final int[] refused = new int[3];

    private final Demands demands = new Demands();
    private final Parts parts = new Parts();
    private final Steps steps = new Steps();
    private final Findings findings = new Findings();
    private final Choices choices = new Choices();
    private final Clock clock = new Clock();
    private final Pairing pairing = new Pairing();
    /** Whether what is held of each still goes for the history as it is now. */
    private boolean isFound, isChosen, isTimed, isPaired;

    public NoWhen() {
    }

    // ---- histories

    public int thing() {
        if (history.things >= MOST_THINGS) {
            return refuse(FULL, FULL);
        }
        changed();
        return history.addThing();
    }

    public int of(int thing, int person) {
        if (!isThing(thing) || (person != NONE && !isPerson(person))) {
            return refuse(BAD, BAD_10);
        }
        int old = history.whose[thing];
        history.whose[thing] = person;
        changed();
        return old;
    }

    public int story(int thing, int v) {
        if (!isThing(thing) || !isEither(v)) {
            return refuse(BAD, BAD);
        }
        int old = history.story[thing];
        history.story[thing] = v;
        changed();
        return old;
    }

    public int say(int a, int kind, int b, int by) {
        if (!areTwoThings(a, b) || kind < AHEAD || kind > CROSS || !isPerson(by)) {
            return refuse(BAD, BAD);
        }
        if (history.sayings >= MOST_SAYINGS) {
            return refuse(FULL, FULL);
        }
        changed();
        return history.addSaying(a, kind, b, by);
    }

    public int unsay() {
        if (history.sayings == 0) {
            return refuse(NO, NO);
        }
        history.sayings--;
        changed();
        return history.sayings;
    }

    public int type(long v, int n) {
        if (n < 1 || n > 8) {
            return refuse(BAD, BAD);
        }
        if (paper.length + n > MOST_BYTES) {
            return refuse(FULL, FULL);
        }
        paper.add(v, n);
        return paper.length;
    }

    public int clear() {
        int old = paper.length;
        paper.length = 0;
        return old;
    }

    public int read() {
        int fault = reader.faultIn(paper);
        if (fault != NONE) {
            return -10 - fault;
        }
        history.copy(reader.told);
        changed();
        return history.sayings;
    }

    // ---- what fits

    public long fits() {
        find();
        return findings.fits;
    }

    public int first(int end) {
        if (!isEnd(end)) {
            return refuse(BAD, BAD);
        }
        if (!hasFit()) {
            return refuse(NO, NO);
        }
        return findings.moment[end];
    }

    public int moments() {
        return hasFit() ? findings.moments : refuse(NO, NO);
    }

    public int last(int moment) {
        if (!hasFit()) {
            return refuse(NO, NO);
        }
        if (moment < 0 || moment >= findings.moments) {
            return refuse(BAD, BAD);
        }
        return findings.lastingBehind(moment, history.things);
    }

    public int clash() {
        choose();
        return choices.fewestThatCanNot(history.sayings);
    }

    public int drop() {
        choose();
        return choices.fewestToDrop(history.sayings);
    }

    public int between(int x, int y) {
        if (!isEnd(x) || !isEnd(y) || x == y) {
            return refuse(BAD, BAD);
        }
        return hasFit() ? findings.relation(x, y) : refuse(NO, NO);
    }

    public int sure() {
        return hasFit() ? findings.surePairs(2 * history.things) : refuse(NO, NO);
    }

    public long together(int a, int b) {
        if (!areTwoThings(a, b)) {
            return refuse(BAD, BAD);
        }
        find();
        return findings.overlaps(a, b);
    }

    public long ask(int what) {
        if (!isEither(what)) {
            return refuse(BAD, BAD);
        }
        if (!hasFit()) {
            return refuse(NO, NO);
        }
        return findings.question(what, 2 * history.things);
    }

    public int one(int i) {
        if (i < NONE) {
            return refuse(BAD, BAD_10);
        }
        pair();
        if (!pairing.isFair) {
            return refuse(BAD, BAD_10);
        }
        if (i == NONE) {
            return pairing.ways;
        }
        return i < pairing.pairs && pairing.ways > 0 ? pairing.mate[i] : NO_MATE;
    }

    public int word(int person) {
        if (!isPerson(person)) {
            return refuse(BAD, BAD);
        }
        choose();
        return choices.can(history.sayingsNotBy(person)) ? 1 : 0;
    }

    public int against() {
        choose();
        int bits = 0;
        for (int person = 0; person < PEOPLE; person++) {
            if (choices.can(history.sayingsNotBy(person))) {
                bits |= 1 << person;
            }
        }
        return bits;
    }

    // ---- a watch

    public int watch(int end, int minute) {
        if (!isEnd(end) || minute < NONE || minute > LAST_MINUTE) {
            return refuse(BAD, BAD_10);
        }
        int old = history.watch[end];
        history.watch[end] = minute;
        isTimed = false;
        return old;
    }

    public int minute(int end, int what) {
        if (!isEnd(end) || !isEither(what)) {
            return refuse(BAD, BAD);
        }
        time();
        return what == 0 ? clock.soonest[end] : clock.latest[end];
    }

    // ---- what there is

    public int image(int i) {
        if (!isEither(i)) {
            return refuse(BAD, BAD);
        }
        images[i].copy(history);
        imageKept[i] = true;
        return 1;
    }

    public int from(int i) {
        if (!isEither(i)) {
            return refuse(BAD, BAD);
        }
        if (!imageKept[i]) {
            return refuse(NO, NO);
        }
        history.copy(images[i]);
        changed();
        return 1;
    }

    public int status(int what) {
        if (what < 0 || what > 2) {
            return refuse(BAD, NONE);
        }
        return refused[what];
    }

    public int count(int what) {
        switch (what) {
            case 0: return history.things;
            case 1: return history.sayings;
            case 2: return history.watched();
            case 3: return paper.length;
            default: return refuse(BAD, BAD);
        }
    }

    public long digest() {
        return history.digestWith(paper.length);
    }

    // ---- behind the face

    private int refuse(int reason, int answer) {
        refused[BAD - reason]++;
        return answer;
    }

    private boolean isThing(int thing) {
        return thing >= 0 && thing < history.things;
    }

    private boolean areTwoThings(int a, int b) {
        return isThing(a) && isThing(b) && a != b;
    }

    private boolean isEnd(int end) {
        return end >= 0 && end < 2 * history.things;
    }

    private static boolean isPerson(int person) {
        return person >= 0 && person < PEOPLE;
    }

    private static boolean isEither(int v) {
        return v == 0 || v == 1;
    }

    private void changed() {
        isFound = false;
        isChosen = false;
        isTimed = false;
        isPaired = false;
    }

    private boolean hasFit() {
        find();
        return findings.fits > 0;
    }

    private void find() {
        if (isFound) {
            return;
        }
        demands.take(history);
        steps.lay(demands, parts, history.things);
        findings.weigh(steps, parts, history.things);
        isFound = true;
    }

    private void choose() {
        if (isChosen) {
            return;
        }
        demands.take(history);
        choices.weigh(demands, parts, history.things);
        isChosen = true;
    }

    private void time() {
        if (isTimed) {
            return;
        }
        find();
        clock.tell(steps, parts, history);
        isTimed = true;
    }

    private void pair() {
        if (isPaired) {
            return;
        }
        demands.take(history);
        pairing.seek(history, demands, parts);
        isPaired = true;
    }

    private static int setAt(int place) {
        return SET_AT[place % 27] | SET_AT[place / 27] << 6;
    }

    private static int placeOf(int set) {
        return PLACE_OF[set & 63] + 27 * PLACE_OF[set >> 6 & 63];
    }

    private static String wordOf(int word) {
        switch (word) {
            case AHEAD: return "ahead";
            case MEETS: return "meets";
            case WHILE: return "while";
            case INSIDE: return "inside";
            case BEGINS: return "begins";
            case ENDS: return "ends";
            case APART: return "apart";
            case CROSS: return "cross";
            case WORD_THINGS: return "things";
            case WORD_OF: return "of";
            case WORD_STORY: return "story";
            default: return "by";
        }
    }

    /** THINGS, SAYINGS and THE WATCH: all that an IMAGE keeps. */
    private static final class History {
        int things;
        final int[] whose = new int[MOST_THINGS];
        final int[] story = new int[MOST_THINGS];
        final int[] watch = new int[MOST_ENDS];
        int sayings;
        final int[] kind = new int[MOST_SAYINGS];
        final int[] a = new int[MOST_SAYINGS];
        final int[] b = new int[MOST_SAYINGS];
        final int[] by = new int[MOST_SAYINGS];

        void empty() {
            things = 0;
            sayings = 0;
        }

        int addThing() {
            int t = things;
            whose[t] = NONE;
            story[t] = 0;
            watch[2 * t] = NONE;
            watch[2 * t + 1] = NONE;
            things = t + 1;
            return t;
        }

        int addSaying(int a, int kind, int b, int by) {
            int s = sayings;
            this.a[s] = a;
            this.kind[s] = kind;
            this.b[s] = b;
            this.by[s] = by;
            sayings = s + 1;
            return s;
        }

        void copy(History other) {
            things = other.things;
            sayings = other.sayings;
            for (int t = 0; t < MOST_THINGS; t++) {
                whose[t] = other.whose[t];
                story[t] = other.story[t];
            }
            for (int e = 0; e < MOST_ENDS; e++) {
                watch[e] = other.watch[e];
            }
            for (int s = 0; s < MOST_SAYINGS; s++) {
                kind[s] = other.kind[s];
                a[s] = other.a[s];
                b[s] = other.b[s];
                by[s] = other.by[s];
            }
        }

        int sayingsNotBy(int person) {
            int bits = 0;
            for (int s = 0; s < sayings; s++) {
                if (by[s] != person) {
                    bits |= 1 << s;
                }
            }
            return bits;
        }

        int watched() {
            int ends = 0;
            for (int e = 0; e < 2 * things; e++) {
                if (watch[e] != NONE) {
                    ends++;
                }
            }
            return ends;
        }

        long digestWith(int bytes) {
            long h = 709;
            h = 31 * h + things;
            h = 31 * h + sayings;
            h = 31 * h + watched();
            h = 31 * h + bytes;
            for (int t = 0; t < things; t++) {
                h = 31 * h + whose[t];
                h = 31 * h + story[t];
            }
            for (int s = 0; s < sayings; s++) {
                h = 31 * h + kind[s];
                h = 31 * h + a[s];
                h = 31 * h + b[s];
                h = 31 * h + by[s];
            }
            for (int e = 0; e < 2 * things; e++) {
                h = 31 * h + watch[e];
            }
            return h;
        }
    }

    /** THE TEXT. */
    private static final class Paper {
        final int[] bytes = new int[MOST_BYTES];
        int length;

        void add(long v, int n) {
            for (int k = n - 1; k >= 0; k--) {
                bytes[length] = (int) (v >> 8 * k) & 255;
                length++;
            }
        }
    }

    /** Reads THE TEXT, TOKEN by TOKEN, into a history of its own. */
    private static final class Reader {
        private static final int OVER = 0, WORD = 1, NUMBER = 2, STOP = 3, STRANGE = 4;

        final History told = new History();
        private Paper text = new Paper();
        private int next;
        // the TOKEN that is looked at: the place of its first byte, of what sort it is, which word or number
        private int start;
        private int sort;
        private int value;

        /** The FAULT, or NONE. */
        int faultIn(Paper paper) {
            text = paper;
            next = 0;
            told.empty();
            advance();
            boolean stands = heading();
            // an ITEM takes a byte at least
            for (int k = 0; k < MOST_BYTES && stands && sort != OVER; k++) {
                stands = item();
            }
            return stands ? NONE : start;
        }

        private boolean heading() {
            if (!takeWord(WORD_THINGS)) {
                return false;
            }
            int n = takeNumber(1, MOST_THINGS);
            for (int t = 0; t < n; t++) {
                told.addThing();
            }
            return n > 0 && takeStop();
        }

        private boolean item() {
            if (sort == NUMBER) {
                return saying();
            }
            if (takeWord(WORD_OF)) {
                return owner();
            }
            return takeWord(WORD_STORY) && second();
        }

        private boolean saying() {
            // a SAYING too many is a FAULT at its first NUMBER
            if (told.sayings >= MOST_SAYINGS) {
                return false;
            }
            int a = takeNumber(0, told.things - 1);
            int kind = a < 0 ? NONE : takeKind();
            if (kind < 0 || value == a) {
                return false;
            }
            int b = takeNumber(0, told.things - 1);
            if (b < 0) {
                return false;
            }
            int by = 0;
            if (takeWord(WORD_BY)) {
                by = takeNumber(0, PEOPLE - 1);
            }
            if (by < 0 || !takeStop()) {
                return false;
            }
            told.addSaying(a, kind, b, by);
            return true;
        }

        private boolean owner() {
            int t = takeNumber(0, told.things - 1);
            int p = t < 0 ? NONE : takeNumber(0, PEOPLE - 1);
            if (p < 0) {
                return false;
            }
            told.whose[t] = p;
            return takeStop();
        }

        private boolean second() {
            int t = takeNumber(0, told.things - 1);
            if (t < 0) {
                return false;
            }
            told.story[t] = 1;
            return takeStop();
        }

        private boolean takeWord(int word) {
            if (sort != WORD || value != word) {
                return false;
            }
            advance();
            return true;
        }

        private int takeKind() {
            if (sort != WORD || value < AHEAD || value > CROSS) {
                return NONE;
            }
            int kind = value;
            advance();
            return kind;
        }

        private int takeNumber(int least, int most) {
            if (sort != NUMBER || value < least || value > most) {
                return NONE;
            }
            int number = value;
            advance();
            return number;
        }

        private boolean takeStop() {
            if (sort != STOP) {
                return false;
            }
            advance();
            return true;
        }

        private void advance() {
            for (; next < text.length && text.bytes[next] == ' '; next++) {
            }
            start = next;
            value = NONE;
            if (next >= text.length) {
                sort = OVER;
            } else if (isLetter(next)) {
                for (; next < text.length && isLetter(next); next++) {
                }
                sort = WORD;
                value = wordFrom(start, next);
            } else if (isFigure(next)) {
                for (; next < text.length && isFigure(next); next++) {
                }
                sort = NUMBER;
                value = next - start == 1 ? text.bytes[start] - '0' : NONE;
            } else {
                sort = text.bytes[next] == ';' ? STOP : STRANGE;
                next++;
            }
        }

        private boolean isLetter(int place) {
            return text.bytes[place] >= 'a' && text.bytes[place] <= 'z';
        }

        private boolean isFigure(int place) {
            return text.bytes[place] >= '0' && text.bytes[place] <= '9';
        }

        private int wordFrom(int from, int to) {
            for (int word = 0; word < WORDS; word++) {
                if (spells(from, to, wordOf(word))) {
                    return word;
                }
            }
            return NONE;
        }

        private boolean spells(int from, int to, String word) {
            if (to - from != word.length()) {
                return false;
            }
            for (int k = 0; k < word.length(); k++) {
                if (text.bytes[from + k] != word.charAt(k)) {
                    return false;
                }
            }
            return true;
        }
    }

    /** What an ORDER must keep, each with the bit of the SAYING that makes it so, or GIVEN. */
    private static final class Demands {
        private static final int MOST = 48;

        private int count;
        private int countOfHistory;
        private final int[] sooner = new int[MOST];
        private final int[] later = new int[MOST];
        private final boolean[] strict = new boolean[MOST];
        private final int[] maker = new int[MOST];
        private int aparts;
        private final int[] one = new int[MOST];
        private final int[] other = new int[MOST];
        private final int[] parter = new int[MOST];

        /** Of the set last weighed: who is broken by it, whatever its last MOMENT was. */
        int broken;
        /** Who is broken too, if an END of the set came in its last MOMENT only. */
        final int[] missed = new int[MOST_ENDS];

        void take(History history) {
            count = 0;
            aparts = 0;
            for (int t = 0; t < history.things; t++) {
                ahead(2 * t, 2 * t + 1, GIVEN);
                for (int u = 0; u < t; u++) {
                    if (history.whose[t] != NONE && history.whose[t] == history.whose[u]) {
                        apart(t, u, GIVEN);
                    }
                }
            }
            for (int s = 0; s < history.sayings; s++) {
                takeSaying(history.kind[s], history.a[s], history.b[s], 1 << s);
            }
            countOfHistory = count;
        }

        private void takeSaying(int kind, int a, int b, int by) {
            int a0 = 2 * a, a1 = 2 * a + 1, b0 = 2 * b, b1 = 2 * b + 1;
            switch (kind) {
                case AHEAD:
                    ahead(a1, b0, by);
                    break;
                case MEETS:
                    alike(a1, b0, by);
                    break;
                case WHILE:
                    noLater(b0, a0, by);
                    noLater(a1, b1, by);
                    break;
                case INSIDE:
                    ahead(b0, a0, by);
                    ahead(a1, b1, by);
                    break;
                case BEGINS:
                    alike(a0, b0, by);
                    noLater(a1, b1, by);
                    break;
                case ENDS:
                    alike(a1, b1, by);
                    noLater(b0, a0, by);
                    break;
                case APART:
                    apart(a, b, by);
                    break;
                default:
                    ahead(a0, b0, by);
                    ahead(b0, a1, by);
                    ahead(a1, b1, by);
                    break;
            }
        }

        void takePair(int a, int b) {
            alike(2 * a, 2 * b, GIVEN);
            alike(2 * a + 1, 2 * b + 1, GIVEN);
        }

        void dropPairs() {
            count = countOfHistory;
        }

        private void ahead(int x, int y, int by) {
            add(x, y, true, by);
        }

        private void noLater(int x, int y, int by) {
            add(x, y, false, by);
        }

        private void alike(int x, int y, int by) {
            add(x, y, false, by);
            add(y, x, false, by);
        }

        private void add(int x, int y, boolean isStrict, int by) {
            if (count >= MOST) {
                return;
            }
            sooner[count] = x;
            later[count] = y;
            strict[count] = isStrict;
            maker[count] = by;
            count++;
        }

        private void apart(int a, int b, int by) {
            if (aparts >= MOST) {
                return;
            }
            one[aparts] = a;
            other[aparts] = b;
            parter[aparts] = by;
            aparts++;
        }

        /** What it means that just these ENDS have come. */
        void weigh(int set) {
            broken = 0;
            for (int x = 0; x < MOST_ENDS; x++) {
                missed[x] = 0;
            }
            for (int d = 0; d < count; d++) {
                if ((set >> later[d] & 1) == 0) {
                    continue;
                }
                if ((set >> sooner[d] & 1) == 0) {
                    broken |= maker[d];
                } else if (strict[d]) {
                    missed[sooner[d]] |= maker[d];
                }
            }
            for (int d = 0; d < aparts; d++) {
                if (lasts(set, one[d]) && lasts(set, other[d])) {
                    broken |= parter[d];
                }
            }
        }

        private static boolean lasts(int set, int thing) {
            return (set >> 2 * thing & 3) == 1;
        }

        /** The ENDS of the set weighed that may have come last without breaking any of some makers' demands. */
        int looseIn(int set, int makers) {
            int loose = 0;
            for (int x = 0; x < MOST_ENDS; x++) {
                if ((set >> x & 1) == 1 && (missed[x] & makers) == 0) {
                    loose |= 1 << x;
                }
            }
            return loose;
        }
    }

    /** The parts of a set of ENDS, the lesser ones first; part k has the members of k's bits. */
    private static final class Parts {
        int members;
        final int[] member = new int[MOST_THINGS];
        int count;
        final int[] part = new int[MOST_PARTS];

        void take(int set) {
            members = 0;
            count = 1;
            part[0] = 0;
            for (int x = 0; x < MOST_ENDS && members < MOST_THINGS; x++) {
                if ((set >> x & 1) == 0) {
                    continue;
                }
                for (int k = 0; k < count; k++) {
                    part[count + k] = part[k] | 1 << x;
                }
                member[members] = x;
                members++;
                count *= 2;
            }
        }
    }

    /** The sets of ENDS that may have come behind a MOMENT, and in how many ways each is come to. */
    private static final class Steps {
        int sets;
        /** Those ENDS of the set at a place that its last MOMENT may have had; NONE: there can be no such set. */
        final int[] loose = new int[MOST_SETS];
        final long[] ways = new long[MOST_SETS];

        void lay(Demands demands, Parts parts, int things) {
            sets = SETS[things];
            for (int i = 0; i < sets; i++) {
                int set = setAt(i);
                demands.weigh(set);
                loose[i] = demands.broken != 0 ? NONE : demands.looseIn(set, -1);
                ways[i] = loose[i] == NONE ? 0 : waysTo(i, parts);
            }
        }

        private long waysTo(int i, Parts parts) {
            if (i == 0) {
                return 1;
            }
            int set = setAt(i);
            long sum = 0;
            parts.take(loose[i]);
            for (int k = 1; k < parts.count; k++) {
                sum += ways[placeOf(set ^ parts.part[k])];
            }
            return sum;
        }

        long allWays() {
            return ways[sets - 1];
        }
    }

    /** What the FITS tell. */
    private static final class Findings {
        long fits;
        int moments;
        final int[] moment = new int[MOST_ENDS];
        // in how many FITS an END is ahead of another, and in one MOMENT with it (the lesser one first)
        private final long[] ahead = new long[MOST_ENDS * MOST_ENDS];
        private final long[] alike = new long[MOST_ENDS * MOST_ENDS];
        // in how many ways it may go on from the set at a place
        private final long[] rest = new long[MOST_SETS];
        private final long[] share = new long[MOST_PARTS];

        void weigh(Steps steps, Parts parts, int things) {
            fits = steps.allWays();
            for (int p = 0; p < MOST_ENDS * MOST_ENDS; p++) {
                ahead[p] = 0;
                alike[p] = 0;
            }
            for (int i = 0; i < steps.sets; i++) {
                rest[i] = 0;
            }
            rest[steps.sets - 1] = 1;
            for (int i = steps.sets - 1; i > 0; i--) {
                if (steps.loose[i] != NONE && rest[i] > 0) {
                    weighStepsTo(i, steps, parts);
                    notePairs(setAt(i), parts, 2 * things);
                }
            }
            findFirst(steps, parts, things);
        }

        /** Leaves in share k: in how many FITS part k of the set's loose ENDS, or more, is what comes last. */
        private void weighStepsTo(int i, Steps steps, Parts parts) {
            int set = setAt(i);
            parts.take(steps.loose[i]);
            share[0] = 0;
            for (int k = 1; k < parts.count; k++) {
                int from = placeOf(set ^ parts.part[k]);
                rest[from] += rest[i];
                share[k] = steps.ways[from] * rest[i];
            }
            for (int m = 0; m < parts.members; m++) {
                for (int k = 0; k < parts.count; k++) {
                    if ((k >> m & 1) == 0) {
                        share[k] += share[k | 1 << m];
                    }
                }
            }
        }

        private void notePairs(int set, Parts parts, int ends) {
            for (int m = 0; m < parts.members; m++) {
                int row = MOST_ENDS * parts.member[m];
                for (int y = 0; y < ends; y++) {
                    if ((set >> y & 1) == 0) {
                        ahead[row + y] += share[1 << m];
                    }
                }
                for (int n = m + 1; n < parts.members; n++) {
                    alike[row + parts.member[n]] += share[1 << m | 1 << n];
                }
            }
        }

        private void findFirst(Steps steps, Parts parts, int things) {
            int all = (1 << 2 * things) - 1;
            int set = 0;
            moments = 0;
            for (int m = 0; m < MOST_ENDS && set != all && fits > 0; m++) {
                int next = leastBehind(set, all, steps, parts);
                for (int x = 0; x < MOST_ENDS; x++) {
                    if ((next >> x & 1) == 1) {
                        moment[x] = m;
                    }
                }
                set |= next;
                moments = m + 1;
            }
        }

        private int leastBehind(int set, int all, Steps steps, Parts parts) {
            int beginnings = ALL_BEGINNINGS & all & ~set;
            int ends = (ALL_BEGINNINGS & set) << 1 & ~set;
            parts.take(beginnings | ends);
            for (int k = 1; k < parts.count; k++) {
                int part = parts.part[k];
                int to = placeOf(set | part);
                if (steps.loose[to] != NONE && (part & ~steps.loose[to]) == 0 && rest[to] > 0) {
                    return part;
                }
            }
            return 0;
        }

        int lastingBehind(int m, int things) {
            int n = 0;
            for (int t = 0; t < things; t++) {
                if (moment[2 * t] <= m && m < moment[2 * t + 1]) {
                    n++;
                }
            }
            return n;
        }

        private long aheadOf(int x, int y) {
            return ahead[MOST_ENDS * x + y];
        }

        private long alikeWith(int x, int y) {
            return alike[MOST_ENDS * Math.min(x, y) + Math.max(x, y)];
        }

        /** BETWEEN, as bits. */
        int relation(int x, int y) {
            return (aheadOf(x, y) > 0 ? 1 : 0) | (alikeWith(x, y) > 0 ? 2 : 0) | (aheadOf(y, x) > 0 ? 4 : 0);
        }

        private boolean isSure(int x, int y) {
            return Integer.bitCount(relation(x, y)) == 1;
        }

        int surePairs(int ends) {
            int n = 0;
            for (int x = 0; x < ends; x++) {
                for (int y = x + 1; y < ends; y++) {
                    if (isSure(x, y)) {
                        n++;
                    }
                }
            }
            return n;
        }

        /** All FITS but those in which one of the two ends no later than the other begins. */
        long overlaps(int a, int b) {
            return fits - noLater(2 * a + 1, 2 * b) - noLater(2 * b + 1, 2 * a);
        }

        private long noLater(int x, int y) {
            return aheadOf(x, y) + alikeWith(x, y);
        }

        /** ASK: the pair (0), or the most FITS that may be left (1). */
        long question(int what, int ends) {
            long pair = NONE;
            long fewest = NONE;
            for (int x = 0; x < ends; x++) {
                for (int y = x + 1; y < ends; y++) {
                    long left = mostLeft(x, y);
                    if (!isSure(x, y) && (pair == NONE || left < fewest)) {
                        pair = 100 * x + y;
                        fewest = left;
                    }
                }
            }
            return what == 0 ? pair : fewest;
        }

        private long mostLeft(int x, int y) {
            return Math.max(alikeWith(x, y), Math.max(aheadOf(x, y), aheadOf(y, x)));
        }
    }

    /** For each choice of SAYINGS whether one ORDER can keep them all (with OF). */
    private static final class Choices {
        /** A choice is a bit of 256: it stands in one of four longs. */
        private static final int ROW = 4;

        // which choices the set at each place can still be come to with
        private final long[] open = new long[ROW * MOST_SETS];
        private final int[] broken = new int[MOST_PARTS];
        private int end;

        void weigh(Demands demands, Parts parts, int things) {
            int sets = SETS[things];
            for (int w = 0; w < ROW; w++) {
                open[w] = -1;
            }
            for (int i = 1; i < sets; i++) {
                for (int w = 0; w < ROW; w++) {
                    open[ROW * i + w] = 0;
                }
                demands.weigh(setAt(i));
                if ((demands.broken & GIVEN) == 0) {
                    weighStepsTo(i, demands, parts);
                }
            }
            end = ROW * (sets - 1);
        }

        private void weighStepsTo(int i, Demands demands, Parts parts) {
            int set = setAt(i);
            parts.take(demands.looseIn(set, GIVEN));
            findBroken(demands, parts);
            for (int k = 1; k < parts.count; k++) {
                int from = ROW * placeOf(set ^ parts.part[k]);
                long low = without(broken[k]);
                int high = broken[k] >> 6;
                for (int w = 0; w < ROW; w++) {
                    if ((high & w) == 0) {
                        open[ROW * i + w] |= open[from + w] & low;
                    }
                }
            }
        }

        /** Leaves in broken k: who is broken, if part k of the loose ENDS came last. */
        private void findBroken(Demands demands, Parts parts) {
            broken[0] = demands.broken;
            for (int m = 0; m < parts.members; m++) {
                for (int k = 0; k < 1 << m; k++) {
                    broken[k | 1 << m] = broken[k] | demands.missed[parts.member[m]];
                }
            }
        }

        /** The choices, of 64, that have none of these SAYINGS. */
        private static long without(int sayings) {
            long choices = -1;
            choices &= (sayings & 1) != 0 ? 0x5555555555555555L : -1;
            choices &= (sayings & 2) != 0 ? 0x3333333333333333L : -1;
            choices &= (sayings & 4) != 0 ? 0x0F0F0F0F0F0F0F0FL : -1;
            choices &= (sayings & 8) != 0 ? 0x00FF00FF00FF00FFL : -1;
            choices &= (sayings & 16) != 0 ? 0x0000FFFF0000FFFFL : -1;
            choices &= (sayings & 32) != 0 ? 0x00000000FFFFFFFFL : -1;
            return choices;
        }

        boolean can(int choice) {
            return (open[end + (choice >> 6)] >> (choice & 63) & 1) == 1;
        }

        int fewestThatCanNot(int sayings) {
            int best = NONE;
            for (int choice = 0; choice < 1 << sayings; choice++) {
                if (!can(choice) && (best == NONE || Integer.bitCount(choice) < Integer.bitCount(best))) {
                    best = choice;
                }
            }
            return best;
        }

        int fewestToDrop(int sayings) {
            int all = (1 << sayings) - 1;
            int best = all;
            for (int dropped = 0; dropped < all; dropped++) {
                if (can(all ^ dropped) && Integer.bitCount(dropped) < Integer.bitCount(best)) {
                    best = dropped;
                }
            }
            return best;
        }
    }

    /** What THE WATCH tells of the MINUTES of all ENDS. */
    private static final class Clock {
        /** The MINUTE of ENDS of which THE WATCH tells nothing; one that is none. */
        private static final int FREE = NONE, TOO_LATE = LAST_MINUTE + 1;

        final int[] soonest = new int[MOST_ENDS];
        final int[] latest = new int[MOST_ENDS];
        // the least MINUTE of the MOMENT behind which just the ENDS at a place have come
        private final int[] least = new int[MOST_SETS];
        // the greatest MINUTE of the MOMENT that comes next
        private final int[] most = new int[MOST_SETS];
        private final int[] told = new int[MOST_PARTS];

        void tell(Steps steps, Parts parts, History history) {
            for (int x = 0; x < MOST_ENDS; x++) {
                soonest[x] = NONE;
                latest[x] = NONE;
            }
            least[0] = NONE;
            for (int i = 1; i < steps.sets; i++) {
                least[i] = TOO_LATE;
                if (steps.loose[i] != NONE) {
                    goOnTo(i, steps, parts, history);
                }
            }
            for (int i = 0; i < steps.sets; i++) {
                most[i] = NONE;
            }
            most[steps.sets - 1] = TOO_LATE;
            for (int i = steps.sets - 1; i > 0; i--) {
                if (steps.loose[i] != NONE && most[i] > 0) {
                    goBackFrom(i, steps, parts, history);
                }
            }
        }

        private void goOnTo(int i, Steps steps, Parts parts, History history) {
            int set = setAt(i);
            parts.take(steps.loose[i]);
            findTold(parts, history);
            for (int k = 1; k < parts.count; k++) {
                int low = least[placeOf(set ^ parts.part[k])] + 1;
                if (told[k] == FREE) {
                    least[i] = Math.min(least[i], low);
                } else if (told[k] >= low) {
                    least[i] = Math.min(least[i], told[k]);
                }
            }
        }

        private void goBackFrom(int i, Steps steps, Parts parts, History history) {
            int set = setAt(i);
            parts.take(steps.loose[i]);
            findTold(parts, history);
            for (int k = 1; k < parts.count; k++) {
                int high = most[i] - 1;
                if (told[k] > high) {
                    continue;
                }
                int from = placeOf(set ^ parts.part[k]);
                int low = least[from] + 1;
                if (told[k] != FREE) {
                    high = told[k];
                    low = Math.max(low, told[k]);
                }
                most[from] = Math.max(most[from], high);
                if (low <= high) {
                    note(parts.part[k], low, high);
                }
            }
        }

        private void note(int part, int low, int high) {
            for (int x = 0; x < MOST_ENDS; x++) {
                if ((part >> x & 1) == 1) {
                    soonest[x] = soonest[x] == NONE ? low : Math.min(soonest[x], low);
                    latest[x] = Math.max(latest[x], high);
                }
            }
        }

        /** Leaves in told k: the MINUTE told of part k of the loose ENDS; TOO_LATE: more than one is told. */
        private void findTold(Parts parts, History history) {
            told[0] = FREE;
            for (int m = 0; m < parts.members; m++) {
                int minute = history.watch[parts.member[m]];
                for (int k = 0; k < 1 << m; k++) {
                    told[k | 1 << m] = joined(told[k], minute);
                }
            }
        }

        private static int joined(int one, int other) {
            if (one == FREE || one == other) {
                return other;
            }
            return other == FREE ? one : TOO_LATE;
        }
    }

    /** ONE: who of STORY 0 may be who of STORY 1. */
    private static final class Pairing {
        boolean isFair;
        int pairs;
        int ways;
        final int[] mate = new int[MOST_THINGS];
        private final Steps steps = new Steps();
        private final int[] here = new int[MOST_THINGS];
        private final int[] there = new int[MOST_THINGS];
        private final int[] pick = new int[MOST_THINGS];

        void seek(History history, Demands demands, Parts parts) {
            sort(history);
            ways = 0;
            if (!isFair) {
                return;
            }
            int codes = 1;
            for (int k = 0; k < pairs; k++) {
                codes *= pairs;
            }
            for (int code = 0; code < codes; code++) {
                if (decode(code) && fitsPicked(history.things, demands, parts)) {
                    if (ways == 0) {
                        keepPicked();
                    }
                    ways++;
                }
            }
        }

        private void sort(History history) {
            pairs = 0;
            int others = 0;
            for (int t = 0; t < history.things; t++) {
                if (history.story[t] == 0) {
                    here[pairs] = t;
                    pairs++;
                } else {
                    there[others] = t;
                    others++;
                }
            }
            isFair = pairs > 0 && pairs == others;
        }

        /** Picks by the code's digits, the first of them the highest; false: one is picked twice. */
        private boolean decode(int code) {
            int left = code;
            int seen = 0;
            for (int k = pairs - 1; k >= 0; k--) {
                pick[k] = left % pairs;
                left /= pairs;
                seen |= 1 << pick[k];
            }
            return seen == (1 << pairs) - 1;
        }

        private boolean fitsPicked(int things, Demands demands, Parts parts) {
            demands.dropPairs();
            for (int k = 0; k < pairs; k++) {
                demands.takePair(here[k], there[pick[k]]);
            }
            steps.lay(demands, parts, things);
            return steps.allWays() > 0;
        }

        private void keepPicked() {
            for (int k = 0; k < pairs; k++) {
                mate[k] = there[pick[k]];
            }
        }
    }
}
