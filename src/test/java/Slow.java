import java.util.ArrayList;
import java.util.HashMap;
import java.util.List;
import java.util.Map;

/**
 * The document said again, as plainly as can be: every ORDER is made and looked at. Of six THINGS there are too many
 * (308 million): there only those are made on whose way no SAYING is broken, so ask it where there are few FITS.
 */
final class Slow {
    private static final String[] KINDS = {"ahead", "meets", "while", "inside", "begins", "ends", "apart", "cross"};
    private static final Map<Integer, List<int[]>> ORDERS = new HashMap<>();

    /** What an IMAGE keeps. */
    private static final class State {
        int things;
        int[] whose = new int[6];
        int[] story = new int[6];
        int[] watch = new int[12];
        List<int[]> sayings = new ArrayList<>();

        State again() {
            State s = new State();
            s.things = things;
            s.whose = whose.clone();
            s.story = story.clone();
            s.watch = watch.clone();
            for (int[] one : sayings) {
                s.sayings.add(one.clone());
            }
            return s;
        }

        void addThing() {
            whose[things] = -1;
            story[things] = 0;
            watch[2 * things] = -1;
            watch[2 * things + 1] = -1;
            things++;
        }
    }

    private State state = new State();
    private final State[] images = new State[2];
    private String text = "";
    private final int[] refused = new int[3];

    // what all ORDERS told, until something changes
    private List<int[]> fitting;
    private boolean[] keepable;

    int refuse(int reason, int answer) {
        refused[reason]++;
        return answer;
    }

    private boolean noThing(int t) {
        return t < 0 || t >= state.things;
    }

    private boolean noEnd(int e) {
        return e < 0 || e >= 2 * state.things;
    }

    // ---- histories

    int thing() {
        if (state.things == 6) {
            return refuse(2, -4);
        }
        state.addThing();
        fitting = null;
        return state.things - 1;
    }

    int of(int t, int p) {
        if (noThing(t) || p < -1 || p > 3) {
            return refuse(0, -10);
        }
        int old = state.whose[t];
        state.whose[t] = p;
        fitting = null;
        return old;
    }

    int story(int t, int v) {
        if (noThing(t) || v < 0 || v > 1) {
            return refuse(0, -2);
        }
        int old = state.story[t];
        state.story[t] = v;
        return old;
    }

    int say(int a, int kind, int b, int by) {
        if (noThing(a) || noThing(b) || a == b || kind < 0 || kind > 7 || by < 0 || by > 3) {
            return refuse(0, -2);
        }
        if (state.sayings.size() == 8) {
            return refuse(2, -4);
        }
        state.sayings.add(new int[] {kind, a, b, by});
        fitting = null;
        return state.sayings.size() - 1;
    }

    int unsay() {
        if (state.sayings.isEmpty()) {
            return refuse(1, -3);
        }
        state.sayings.remove(state.sayings.size() - 1);
        fitting = null;
        return state.sayings.size();
    }

    int type(long v, int n) {
        if (n < 1 || n > 8) {
            return refuse(0, -2);
        }
        if (text.length() + n > 200) {
            return refuse(2, -4);
        }
        for (int k = n - 1; k >= 0; k--) {
            text += (char) (v >>> (8 * k) & 0xff);
        }
        return text.length();
    }

    int clear() {
        int old = text.length();
        text = "";
        return old;
    }

    int read() {
        State told = new State();
        int fault = parse(told);
        if (fault >= 0) {
            return -10 - fault;
        }
        state = told;
        fitting = null;
        return state.sayings.size();
    }

    // ---- THE TEXT: all TOKENS first, then ITEM by ITEM against a row of what may stand

    private List<String> tokens;
    private List<Integer> places;

    private int parse(State told) {
        cut();
        int at = 0;
        String[] head = {"things", "1-6", ";"};
        int[] numbers = new int[8];
        at = match(head, 0, numbers, 0);
        if (at < 0) {
            return places.get(-1 - at);
        }
        for (int t = 0; t < numbers[0]; t++) {
            told.addThing();
        }
        String thing = "0-" + (told.things - 1);
        while (at < tokens.size() - 1) {
            String first = tokens.get(at);
            int next;
            if (first.equals("of")) {
                next = match(new String[] {"of", thing, "0-3", ";"}, at, numbers, 0);
                if (next >= 0) {
                    told.whose[numbers[0]] = numbers[1];
                }
            } else if (first.equals("story")) {
                next = match(new String[] {"story", thing, ";"}, at, numbers, 0);
                if (next >= 0) {
                    told.story[numbers[0]] = 1;
                }
            } else {
                if (told.sayings.size() == 8) {
                    return places.get(at);
                }
                boolean isBy = at + 3 < tokens.size() && tokens.get(at + 3).equals("by");
                String[] row = isBy ? new String[] {thing, "KIND", "other", "by", "0-3", ";"}
                    : new String[] {thing, "KIND", "other", ";"};
                numbers[3] = 0;
                next = match(row, at, numbers, told.things);
                if (next >= 0) {
                    told.sayings.add(new int[] {numbers[1], numbers[0], numbers[2], numbers[3]});
                }
            }
            if (next < 0) {
                return places.get(-1 - next);
            }
            at = next;
        }
        return -1;
    }

    /** Where it goes on, or -1 less the TOKEN that can not stand there. */
    private int match(String[] row, int from, int[] numbers, int things) {
        int n = 0;
        for (int k = 0; k < row.length; k++) {
            String token = tokens.get(from + k);
            String want = row[k];
            boolean isFigure = token.length() == 1 && token.charAt(0) >= '0' && token.charAt(0) <= '9';
            if (want.equals("KIND")) {
                int kind = -1;
                for (int q = 0; q < 8; q++) {
                    if (KINDS[q].equals(token)) {
                        kind = q;
                    }
                }
                if (kind < 0) {
                    return -1 - (from + k);
                }
                numbers[n++] = kind;
            } else if (want.equals("other")) {
                int v = isFigure ? token.charAt(0) - '0' : -1;
                if (v < 0 || v >= things || v == numbers[0]) {
                    return -1 - (from + k);
                }
                numbers[n++] = v;
            } else if (want.indexOf('-') >= 0) {
                if (!isFigure || token.charAt(0) < want.charAt(0) || token.charAt(0) > want.charAt(2)) {
                    return -1 - (from + k);
                }
                numbers[n++] = token.charAt(0) - '0';
            } else if (!want.equals(token)) {
                return -1 - (from + k);
            }
        }
        return from + row.length;
    }

    private void cut() {
        tokens = new ArrayList<>();
        places = new ArrayList<>();
        int k = 0;
        while (k < text.length()) {
            String rest = text.substring(k);
            String token = rest.replaceFirst("(?s)^([a-z]+|[0-9]+| +|.).*$", "$1");
            if (token.charAt(0) != ' ') {
                tokens.add(token);
                places.add(k);
            }
            k += token.length();
        }
        tokens.add("");
        places.add(text.length());
    }

    // ---- ORDERS

    /** All ORDERS of so many THINGS: the MOMENT of each END. */
    private static List<int[]> orders(int things) {
        List<int[]> all = ORDERS.get(things);
        if (all == null) {
            all = new ArrayList<>();
            grow(new int[2 * things], 0, 0, all);
            ORDERS.put(things, all);
        }
        return all;
    }

    private static void grow(int[] moment, int placed, int now, List<int[]> all) {
        int ends = moment.length;
        if (placed == (1 << ends) - 1) {
            all.add(moment.clone());
            return;
        }
        for (int s = 1; s < 1 << ends; s++) {
            boolean good = (s & placed) == 0;
            for (int e = 1; e < ends && good; e += 2) {
                good = (s >> e & 1) == 0 || (placed >> (e - 1) & 1) == 1;
            }
            if (!good) {
                continue;
            }
            for (int e = 0; e < ends; e++) {
                if ((s >> e & 1) == 1) {
                    moment[e] = now;
                }
            }
            grow(moment, placed | s, now + 1, all);
        }
    }

    static boolean keeps(int[] m, int kind, int a, int b) {
        int ab = m[2 * a], ae = m[2 * a + 1], bb = m[2 * b], be = m[2 * b + 1];
        switch (kind) {
            case 0: return ae < bb;
            case 1: return ae == bb;
            case 2: return ab >= bb && ae <= be;
            case 3: return ab > bb && ae < be;
            case 4: return ab == bb && ae <= be;
            case 5: return ae == be && ab >= bb;
            case 6: return ae <= bb || be <= ab;
            default: return ab < bb && bb < ae && ae < be;
        }
    }

    private boolean keepsOf(int[] m) {
        for (int a = 0; a < state.things; a++) {
            for (int b = a + 1; b < state.things; b++) {
                if (state.whose[a] >= 0 && state.whose[a] == state.whose[b] && !keeps(m, 6, a, b)) {
                    return false;
                }
            }
        }
        return true;
    }

    private List<int[]> fitting() {
        if (fitting != null) {
            return fitting;
        }
        fitting = new ArrayList<>();
        if (state.things == 6) {
            growFitting(new int[12], 0, 0);
            return fitting;
        }
        keepable = new boolean[256];
        int all = (1 << state.sayings.size()) - 1;
        for (int[] m : orders(state.things)) {
            if (!keepsOf(m)) {
                continue;
            }
            int kept = 0;
            for (int s = 0; s < state.sayings.size(); s++) {
                int[] one = state.sayings.get(s);
                if (keeps(m, one[0], one[1], one[2])) {
                    kept |= 1 << s;
                }
            }
            keepable[kept] = true;
            if (kept == all) {
                fitting.add(m);
            }
        }
        return fitting;
    }

    /** As grow, but it turns back where what has come already breaks a SAYING or OF. */
    private void growFitting(int[] moment, int placed, int now) {
        if (placed == (1 << 12) - 1) {
            fitting.add(moment.clone());
            return;
        }
        int beginnings = 0x555;
        int next = beginnings & ~placed | (placed & beginnings) << 1 & ~placed;
        for (int s = next; s > 0; s = s - 1 & next) {
            for (int e = 0; e < 12; e++) {
                if ((s >> e & 1) == 1) {
                    moment[e] = now;
                }
            }
            if (mayBeKept(moment, placed | s)) {
                growFitting(moment, placed | s, now + 1);
            }
        }
    }

    private boolean mayBeKept(int[] m, int placed) {
        for (int a = 0; a < 6; a++) {
            for (int b = a + 1; b < 6; b++) {
                boolean isApart = state.whose[a] >= 0 && state.whose[a] == state.whose[b];
                if (isApart && !mayBeKept(m, placed, 6, a, b)) {
                    return false;
                }
            }
        }
        for (int[] one : state.sayings) {
            if (!mayBeKept(m, placed, one[0], one[1], one[2])) {
                return false;
            }
        }
        return true;
    }

    /** What has not come yet comes later, each END in a MOMENT of its own: whether the SAYING is broken by what has come. */
    private static boolean mayBeKept(int[] m, int placed, int kind, int a, int b) {
        int ab = 2 * a, ae = 2 * a + 1, bb = 2 * b, be = 2 * b + 1;
        switch (kind) {
            case 0: return mayBe(m, placed, ae, bb, true);
            case 1: return mayBe(m, placed, ae, bb, false) && mayBe(m, placed, bb, ae, false);
            case 2: return mayBe(m, placed, bb, ab, false) && mayBe(m, placed, ae, be, false);
            case 3: return mayBe(m, placed, bb, ab, true) && mayBe(m, placed, ae, be, true);
            case 4: return mayBe(m, placed, ab, bb, false) && mayBe(m, placed, bb, ab, false) && mayBe(m, placed, ae, be, false);
            case 5: return mayBe(m, placed, ae, be, false) && mayBe(m, placed, be, ae, false) && mayBe(m, placed, bb, ab, false);
            case 6: return mayBe(m, placed, ae, bb, false) || mayBe(m, placed, be, ab, false);
            default: return mayBe(m, placed, ab, bb, true) && mayBe(m, placed, bb, ae, true) && mayBe(m, placed, ae, be, true);
        }
    }

    /** Whether x may still be ahead of y (or, where that is enough, in one MOMENT with it). */
    private static boolean mayBe(int[] m, int placed, int x, int y, boolean isStrict) {
        if ((placed >> y & 1) == 0) {
            return true;
        }
        return (placed >> x & 1) == 1 && (isStrict ? m[x] < m[y] : m[x] <= m[y]);
    }

    private boolean can(int choice) {
        if (state.things == 6) {
            return canOfSix(choice);
        }
        fitting();
        for (int kept = 0; kept < 256; kept++) {
            if (keepable[kept] && (kept & choice) == choice) {
                return true;
            }
        }
        return false;
    }

    // ---- six THINGS: whether some SAYINGS can be kept, by who must come ahead of whom

    private static final int FREE = 0, NO_LATER = 1, AHEAD = 2;

    private boolean canOfSix(int choice) {
        int[][] demand = new int[12][12];
        List<int[]> aparts = new ArrayList<>();
        for (int a = 0; a < 6; a++) {
            demand[2 * a][2 * a + 1] = AHEAD;
            for (int b = a + 1; b < 6; b++) {
                if (state.whose[a] >= 0 && state.whose[a] == state.whose[b]) {
                    aparts.add(new int[] {a, b});
                }
            }
        }
        for (int s = 0; s < state.sayings.size(); s++) {
            if ((choice >> s & 1) == 1) {
                int[] one = state.sayings.get(s);
                if (one[0] == 6) {
                    aparts.add(new int[] {one[1], one[2]});
                } else {
                    addDemands(demand, one[0], 2 * one[1], 2 * one[2]);
                }
            }
        }
        return canWith(demand, aparts, 0);
    }

    private static void addDemands(int[][] d, int kind, int a, int b) {
        boolean isStrict = kind == 3 || kind == 7;
        if (kind == 0) {
            demand(d, a + 1, b, AHEAD);
        } else if (kind == 1) {
            demand(d, a + 1, b, NO_LATER);
            demand(d, b, a + 1, NO_LATER);
        } else if (kind == 7) {
            demand(d, a, b, AHEAD);
            demand(d, b, a + 1, AHEAD);
            demand(d, a + 1, b + 1, AHEAD);
        } else {
            demand(d, b, a, isStrict ? AHEAD : NO_LATER);
            demand(d, a + 1, b + 1, isStrict ? AHEAD : NO_LATER);
            demand(d, a, b, kind == 4 ? NO_LATER : FREE);
            demand(d, b + 1, a + 1, kind == 5 ? NO_LATER : FREE);
        }
    }

    private static void demand(int[][] d, int x, int y, int how) {
        d[x][y] = Math.max(d[x][y], how);
    }

    /** Each APART is the one or the other; then there is an ORDER, if no END must come ahead of itself. */
    private static boolean canWith(int[][] demand, List<int[]> aparts, int k) {
        int[][] d = new int[12][];
        for (int x = 0; x < 12; x++) {
            d[x] = demand[x].clone();
        }
        for (int via = 0; via < 12; via++) {
            for (int x = 0; x < 12; x++) {
                for (int y = 0; y < 12; y++) {
                    if (d[x][via] != FREE && d[via][y] != FREE) {
                        demand(d, x, y, Math.max(d[x][via], d[via][y]));
                    }
                }
            }
        }
        for (int x = 0; x < 12; x++) {
            if (d[x][x] == AHEAD) {
                return false;
            }
        }
        if (k == aparts.size()) {
            return true;
        }
        int a = 2 * aparts.get(k)[0], b = 2 * aparts.get(k)[1];
        int[][] one = new int[12][], other = new int[12][];
        for (int x = 0; x < 12; x++) {
            one[x] = d[x].clone();
            other[x] = d[x].clone();
        }
        demand(one, a + 1, b, NO_LATER);
        demand(other, b + 1, a, NO_LATER);
        return canWith(one, aparts, k + 1) || canWith(other, aparts, k + 1);
    }

    // ---- what fits

    long fits() {
        return fitting().size();
    }

    private int[] first() {
        int[] best = null;
        for (int[] m : fitting()) {
            if (best == null || comesAhead(m, best)) {
                best = m;
            }
        }
        return best;
    }

    private static int bitsOf(int[] m, int moment) {
        int bits = 0;
        for (int e = 0; e < m.length; e++) {
            if (m[e] == moment) {
                bits |= 1 << e;
            }
        }
        return bits;
    }

    private static boolean comesAhead(int[] m, int[] other) {
        for (int k = 0; k < m.length; k++) {
            int one = bitsOf(m, k), two = bitsOf(other, k);
            if (one != two) {
                return one < two;
            }
        }
        return false;
    }

    int first(int end) {
        if (noEnd(end)) {
            return refuse(0, -2);
        }
        return fits() == 0 ? refuse(1, -3) : first()[end];
    }

    private static int momentsOf(int[] m) {
        int n = 0;
        for (int moment : m) {
            n = Math.max(n, moment + 1);
        }
        return n;
    }

    int moments() {
        return fits() == 0 ? refuse(1, -3) : momentsOf(first());
    }

    int last(int moment) {
        if (fits() == 0) {
            return refuse(1, -3);
        }
        int[] m = first();
        if (moment < 0 || moment >= momentsOf(m)) {
            return refuse(0, -2);
        }
        int n = 0;
        for (int t = 0; t < state.things; t++) {
            n += m[2 * t] <= moment && m[2 * t + 1] > moment ? 1 : 0;
        }
        return n;
    }

    int clash() {
        for (int size = 0; size <= state.sayings.size(); size++) {
            for (int c = 0; c < 1 << state.sayings.size(); c++) {
                if (Integer.bitCount(c) == size && !can(c)) {
                    return c;
                }
            }
        }
        return -1;
    }

    int drop() {
        int all = (1 << state.sayings.size()) - 1;
        for (int size = 0; ; size++) {
            for (int c = 0; c <= all; c++) {
                if (Integer.bitCount(c) == size && can(all & ~c)) {
                    return c;
                }
            }
        }
    }

    private long[] threeOf(int x, int y) {
        long[] n = new long[3];
        for (int[] m : fitting()) {
            n[m[x] < m[y] ? 0 : m[x] == m[y] ? 1 : 2]++;
        }
        return n;
    }

    private int bitsOf(long[] n) {
        return (n[0] > 0 ? 1 : 0) + (n[1] > 0 ? 2 : 0) + (n[2] > 0 ? 4 : 0);
    }

    int between(int x, int y) {
        if (noEnd(x) || noEnd(y) || x == y) {
            return refuse(0, -2);
        }
        return fits() == 0 ? refuse(1, -3) : bitsOf(threeOf(x, y));
    }

    int sure() {
        if (fits() == 0) {
            return refuse(1, -3);
        }
        int n = 0;
        for (int x = 0; x < 2 * state.things; x++) {
            for (int y = x + 1; y < 2 * state.things; y++) {
                n += Integer.bitCount(bitsOf(threeOf(x, y))) == 1 ? 1 : 0;
            }
        }
        return n;
    }

    long together(int a, int b) {
        if (noThing(a) || noThing(b) || a == b) {
            return refuse(0, -2);
        }
        long n = 0;
        for (int[] m : fitting()) {
            boolean both = false;
            for (int k = 0; k < m.length; k++) {
                both |= m[2 * a] <= k && m[2 * a + 1] > k && m[2 * b] <= k && m[2 * b + 1] > k;
            }
            n += both ? 1 : 0;
        }
        return n;
    }

    long ask(int what) {
        if (what < 0 || what > 1) {
            return refuse(0, -2);
        }
        if (fits() == 0) {
            return refuse(1, -3);
        }
        long pair = -1, fewest = -1;
        for (int x = 0; x < 2 * state.things; x++) {
            for (int y = x + 1; y < 2 * state.things; y++) {
                long[] n = threeOf(x, y);
                if (Integer.bitCount(bitsOf(n)) == 1) {
                    continue;
                }
                long most = Math.max(n[0], Math.max(n[1], n[2]));
                if (pair < 0 || most < fewest) {
                    pair = 100 * x + y;
                    fewest = most;
                }
            }
        }
        return what == 0 ? pair : fewest;
    }

    int one(int i) {
        List<Integer> here = new ArrayList<>(), there = new ArrayList<>();
        for (int t = 0; t < state.things; t++) {
            (state.story[t] == 0 ? here : there).add(t);
        }
        if (i < -1 || here.isEmpty() || here.size() != there.size()) {
            return refuse(0, -10);
        }
        List<int[]> ways = new ArrayList<>();
        mates(here, there, new int[here.size()], 0, ways);
        if (i == -1) {
            return ways.size();
        }
        return i >= here.size() || ways.isEmpty() ? -5 : ways.get(0)[i];
    }

    private void mates(List<Integer> here, List<Integer> there, int[] mate, int k, List<int[]> ways) {
        if (k == mate.length) {
            for (int[] m : fitting()) {
                boolean good = true;
                for (int q = 0; q < k; q++) {
                    int a = here.get(q), b = mate[q];
                    good &= m[2 * a] == m[2 * b] && m[2 * a + 1] == m[2 * b + 1];
                }
                if (good) {
                    ways.add(mate.clone());
                    return;
                }
            }
            return;
        }
        for (int q = 0; q < there.size(); q++) {
            int t = there.get(q);
            List<Integer> rest = new ArrayList<>(there);
            rest.remove(q);
            mate[k] = t;
            mates(here, rest, mate, k + 1, ways);
        }
    }

    int word(int p) {
        if (p < 0 || p > 3) {
            return refuse(0, -2);
        }
        return canWithout(p) ? 1 : 0;
    }

    private boolean canWithout(int p) {
        int choice = 0;
        for (int s = 0; s < state.sayings.size(); s++) {
            choice |= state.sayings.get(s)[3] == p ? 0 : 1 << s;
        }
        return can(choice);
    }

    int against() {
        int bits = 0;
        for (int p = 0; p < 4; p++) {
            bits += canWithout(p) ? 1 << p : 0;
        }
        return bits;
    }

    // ---- a watch

    int watch(int e, int minute) {
        if (noEnd(e) || minute < -1 || minute > 99) {
            return refuse(0, -10);
        }
        int old = state.watch[e];
        state.watch[e] = minute;
        return old;
    }

    int minute(int e, int what) {
        if (noEnd(e) || what < 0 || what > 1) {
            return refuse(0, -2);
        }
        int best = -1;
        for (int[] m : fitting()) {
            int[] range = rangeOf(m, m[e]);
            if (range == null) {
                continue;
            }
            if (what == 0) {
                best = best < 0 ? range[0] : Math.min(best, range[0]);
            } else {
                best = Math.max(best, range[1]);
            }
        }
        return best;
    }

    /** The least and the greatest MINUTE of a MOMENT of an ORDER; null: THE WATCH rules the ORDER out. */
    private int[] rangeOf(int[] m, int moment) {
        int moments = momentsOf(m);
        int[] told = new int[moments];
        java.util.Arrays.fill(told, -1);
        for (int e = 0; e < m.length; e++) {
            int w = state.watch[e];
            if (w >= 0 && told[m[e]] >= 0 && told[m[e]] != w) {
                return null;
            }
            told[m[e]] = w >= 0 ? w : told[m[e]];
        }
        int low = 0, high = 99;
        for (int k = 0; k < moments; k++) {
            if (told[k] < 0) {
                continue;
            }
            // what is told of any two MOMENTS, or of one and the edges, must leave room for those between
            if (told[k] < k || told[k] > 99 - (moments - 1 - k)) {
                return null;
            }
            for (int q = 0; q < k; q++) {
                if (told[q] >= 0 && told[k] - told[q] < k - q) {
                    return null;
                }
            }
        }
        low = moment;
        high = 99 - (moments - 1 - moment);
        for (int k = 0; k < moments; k++) {
            if (told[k] >= 0 && k <= moment) {
                low = Math.max(low, told[k] + moment - k);
            }
            if (told[k] >= 0 && k >= moment) {
                high = Math.min(high, told[k] - (k - moment));
            }
        }
        return new int[] {low, high};
    }

    // ---- what there is

    int image(int i) {
        if (i < 0 || i > 1) {
            return refuse(0, -2);
        }
        images[i] = state.again();
        return 1;
    }

    int from(int i) {
        if (i < 0 || i > 1) {
            return refuse(0, -2);
        }
        if (images[i] == null) {
            return refuse(1, -3);
        }
        state = images[i].again();
        fitting = null;
        return 1;
    }

    int status(int what) {
        return what < 0 || what > 2 ? refuse(0, -1) : refused[what];
    }

    private int watched() {
        int n = 0;
        for (int e = 0; e < 2 * state.things; e++) {
            n += state.watch[e] >= 0 ? 1 : 0;
        }
        return n;
    }

    int count(int what) {
        switch (what) {
            case 0: return state.things;
            case 1: return state.sayings.size();
            case 2: return watched();
            case 3: return text.length();
            default: return refuse(0, -2);
        }
    }

    long digest() {
        List<Integer> all = new ArrayList<>(List.of(state.things, state.sayings.size(), watched(), text.length()));
        for (int t = 0; t < state.things; t++) {
            all.add(state.whose[t]);
            all.add(state.story[t]);
        }
        for (int[] one : state.sayings) {
            for (int v : one) {
                all.add(v);
            }
        }
        for (int e = 0; e < 2 * state.things; e++) {
            all.add(state.watch[e]);
        }
        long h = 709;
        for (int v : all) {
            h = 31 * h + v;
        }
        return h;
    }
}
