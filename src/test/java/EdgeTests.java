/**
 * What the Terms name: each KIND over each way in which two THINGS can lie, like ones of which the first or the least is
 * due, MINUTES at their ends, the empty (no THINGS, no SAYINGS, no TEXT) and the full (six, eight, 200 bytes).
 */
public final class EdgeTests {
    /** The 13 ways of two THINGS: the MOMENTS in which 0 begins, 0 ends, 1 begins, 1 ends. */
    private static final int[][] WAYS = {{0, 1, 2, 3}, {0, 1, 1, 2}, {0, 2, 1, 3}, {0, 1, 0, 2}, {1, 2, 0, 3}, {1, 2, 0, 2}, {0, 1, 0, 1},
        {0, 2, 0, 1}, {0, 3, 1, 2}, {0, 2, 1, 2}, {1, 3, 0, 2}, {1, 2, 0, 1}, {2, 3, 0, 1}};
    /** Which of the WAYS keep 0 KIND 1, by KINDS. */
    private static final String[] KEPT = {"1000000000000", "0100000000000", "0001111000000", "0000100000000", "0001001000000",
        "0000011000000", "1100000000011", "0010000000000"};

    /** What Sample.SOME holds: whose and STORY; KIND, a, b, by whom; MINUTES. */
    private static final int[][] SOME_THINGS = {{1, 0}, {-1, 0}, {1, 1}};
    private static final int[][] SOME_SAYINGS = {{1, 0, 1, 3}, {2, 2, 1, 0}};
    private static final int[] SOME_WATCH = {7, -1, -1, 40, -1, -1};

    private EdgeTests() {
    }

    public static void main(String[] args) {
        kindsOverAllWays();
        ofOverAllWays();
        freeOfEachSize();
        noThings();
        noThingsLeft();
        oneThing();
        sixFree();
        noSayings();
        eightThatClash();
        eightOfOne();
        eightAgain();
        fullHistory();
        firstLooksAhead();
        firstByBits();
        lastOfFirst();
        clashOfLikeOnes();
        clashOfEachSize();
        dropOfLikeOnes();
        betweenEach();
        sureEach();
        togetherEach();
        askOfLikeOnes();
        oneBeginsAndEnds();
        oneOfLikeOnes();
        wordOfEach();
        minutesOfOne();
        minutesOfOneMoment();
        minutesWithoutRoom();
        watchOfAll();
        textByBytes();
        textFullAndEmpty();
        imagesOfAll();
        imageOfEmpty();
        statusOf512();
        nothingTwice();
        eachChangesItsOwn();
        Checks.end("EdgeTests");
    }

    private static void due(String call, long got, long want) {
        Checks.due(call, got, want);
    }

    private static NoWhen things(int n) {
        return Checks.things(n);
    }

    /** So many THINGS, and SAYINGS of a KIND, a, b; the first by 0, the next by 1, and round again. */
    private static NoWhen said(int things, int[]... sayings) {
        NoWhen x = things(things);
        for (int s = 0; s < sayings.length; s++) {
            x.say(sayings[s][1], sayings[s][0], sayings[s][2], s % 4);
        }
        return x;
    }

    // ---- KINDS and OF

    /** THE WATCH tells of all four ENDS: then there is one ORDER left, and the KIND keeps it or not. */
    private static void kindsOverAllWays() {
        for (int kind = 0; kind < 8; kind++) {
            for (int w = 0; w < WAYS.length; w++) {
                NoWhen x = things(2);
                x.say(0, kind, 1, 0);
                due("kind " + kind + " over way " + w, lies(x, WAYS[w]), KEPT[kind].charAt(w) - '0');
                NoWhen turned = things(2);
                turned.say(1, kind, 0, 0);
                int[] way = {WAYS[w][2], WAYS[w][3], WAYS[w][0], WAYS[w][1]};
                due("kind " + kind + " turned over way " + w, lies(turned, way), KEPT[kind].charAt(w) - '0');
            }
            due("fits of kind " + kind, said(2, new int[] {kind, 0, 1}).fits(), KEPT[kind].replace("0", "").length());
        }
    }

    /** 1: there is a FIT in which the four ENDS lie so. */
    private static int lies(NoWhen x, int[] way) {
        for (int e = 0; e < 4; e++) {
            x.watch(e, 20 * way[e] + 10);
        }
        int can = x.minute(0, 0) < 0 ? 0 : 1;
        for (int e = 0; e < 4; e++) {
            due("soonest of " + e, x.minute(e, 0), can == 0 ? -1 : 20 * way[e] + 10);
            due("latest of " + e, x.minute(e, 1), can == 0 ? -1 : 20 * way[e] + 10);
        }
        return can;
    }

    private static void ofOverAllWays() {
        for (int one = -1; one <= 3; one++) {
            for (int other = -1; other <= 3; other++) {
                for (int w = 0; w < WAYS.length; w++) {
                    NoWhen x = things(2);
                    x.of(0, one);
                    x.of(1, other);
                    int kept = one >= 0 && one == other ? KEPT[6].charAt(w) - '0' : 1;
                    due("of " + one + " and " + other + " over way " + w, lies(x, WAYS[w]), kept);
                }
            }
        }
        // three of one person: each of the 6 rows, with or without a pause at two places
        NoWhen x = things(3);
        for (int t = 0; t < 3; t++) {
            x.of(t, 3);
        }
        due("three of one person", x.fits(), 6 * 4);
        x.of(1, 0);
        due("two of one person", x.fits(), said(3, new int[] {6, 0, 2}).fits());
    }

    /** All ORDERS of 0 to 6 THINGS, of which nothing is said. */
    private static void freeOfEachSize() {
        long[] free = {1, 1, 13, 409, 23917, 2244361, 308682013};
        NoWhen x = new NoWhen();
        for (int n = 0; n <= 6; n++) {
            due("fits of " + n, x.fits(), free[n]);
            due("moments of " + n, x.moments(), 2 * n);
            due("sure of " + n, x.sure(), n);
            due("thing", x.thing(), n < 6 ? n : -4);
        }
    }

    // ---- the empty

    private static void noThings() {
        NoWhen x = new NoWhen();
        due("moments", x.moments(), 0);
        due("clash", x.clash(), -1);
        due("drop", x.drop(), 0);
        due("sure", x.sure(), 0);
        due("ask(0)", x.ask(0), -1);
        due("ask(1)", x.ask(1), -1);
        due("one(-1)", x.one(-1), -10);
        due("word(3)", x.word(3), 1);
        due("against", x.against(), 15);
        due("first(0)", x.first(0), -2);
        due("last(0)", x.last(0), -2);
        due("between(0, 1)", x.between(0, 1), -2);
        due("together(0, 1)", x.together(0, 1), -2);
        due("minute(0, 0)", x.minute(0, 0), -2);
        due("watch(0, -1)", x.watch(0, -1), -10);
        due("of(0, -1)", x.of(0, -1), -10);
        due("story(0, 0)", x.story(0, 0), -2);
        due("say(0, 0, 1, 0)", x.say(0, 0, 1, 0), -2);
        due("unsay", x.unsay(), -3);
        due("clear", x.clear(), 0);
        due("read", x.read(), -10);
        due("from(0)", x.from(0), -3);
        due("from(1)", x.from(1), -3);
        due("digest", x.digest(), 709L * 31 * 31 * 31 * 31);
        Checks.same("status", Look.status(x), "10 BAD, 3 NO, 0 FULL");
    }

    /** An IMAGE of nothing takes six THINGS and eight SAYINGS away. */
    private static void noThingsLeft() {
        NoWhen x = new NoWhen();
        x.image(0);
        Checks.typed(x, Sample.FULL_TEXT);
        x.read();
        x.watch(11, 99);
        Look.at(x);
        x.from(0);
        x.clear();
        Checks.same("nothing left", Look.at(x), Look.at(new NoWhen()));
        due("unsay", x.unsay(), -3);
        due("thing", x.thing(), 0);
        due("of", x.of(0, -1), -1);
        due("story", x.story(0, 0), 0);
        due("watch", x.watch(1, -1), -1);
    }

    private static void oneThing() {
        NoWhen x = things(1);
        due("fits", x.fits(), 1);
        due("moments", x.moments(), 2);
        due("first(0)", x.first(0), 0);
        due("first(1)", x.first(1), 1);
        due("first(2)", x.first(2), -2);
        due("last(0)", x.last(0), 1);
        due("last(1)", x.last(1), 0);
        due("last(2)", x.last(2), -2);
        due("between(0, 1)", x.between(0, 1), 1);
        due("between(1, 0)", x.between(1, 0), 4);
        due("sure", x.sure(), 1);
        due("ask(0)", x.ask(0), -1);
        due("ask(1)", x.ask(1), -1);
        due("together(0, 0)", x.together(0, 0), -2);
        due("one(-1)", x.one(-1), -10);
        due("minute(0, 0)", x.minute(0, 0), 0);
        due("minute(0, 1)", x.minute(0, 1), 98);
        due("minute(1, 0)", x.minute(1, 0), 1);
        due("minute(1, 1)", x.minute(1, 1), 99);
    }

    private static void noSayings() {
        NoWhen x = things(6);
        for (int t = 0; t < 6; t++) {
            x.of(t, 1);
        }
        due("clash", x.clash(), -1);
        due("drop", x.drop(), 0);
        due("against", x.against(), 15);
        due("unsay", x.unsay(), -3);
        Checks.typed(x, "things 6;of 5 3;");
        due("read of no sayings", x.read(), 0);
        due("sayings", x.count(1), 0);
        due("clash", x.clash(), -1);
    }

    // ---- the full

    /** Six THINGS of which nothing is said (the numbers by making each of the 308,682,013 ORDERS once). */
    private static void sixFree() {
        NoWhen x = things(6);
        for (int t = 0; t < 6; t++) {
            due("first beginning", x.first(2 * t), 2 * t);
            due("first end", x.first(2 * t + 1), 2 * t + 1);
            due("last", x.last(2 * t), 1);
            due("last", x.last(2 * t + 1), 0);
            due("together", x.together(t, (t + 1) % 6), 206536129);
            due("soonest beginning", x.minute(2 * t, 0), 0);
            due("latest beginning", x.minute(2 * t, 1), 98);
            due("soonest end", x.minute(2 * t + 1, 0), 1);
            due("latest end", x.minute(2 * t + 1, 1), 99);
        }
        due("last behind all", x.last(12), -2);
        for (int e = 0; e < 12; e++) {
            for (int f = e + 1; f < 12; f++) {
                boolean isOne = e / 2 == f / 2;
                due("between(" + e + ", " + f + ")", x.between(e, f), isOne ? 1 : 7);
                due("between(" + f + ", " + e + ")", x.between(f, e), isOne ? 4 : 7);
            }
        }
        due("ask(0)", x.ask(0), 2);
        due("ask(1)", x.ask(1), 142454225);
        x.say(0, 3, 5, 0);
        due("one inside another", x.fits(), 40308341);
    }

    /** Eight SAYINGS of which each seven can be kept: 5 can lie nowhere. */
    private static NoWhen clashing() {
        return said(6, new int[] {2, 4, 0}, new int[] {0, 3, 0}, new int[] {4, 3, 1}, new int[] {7, 4, 2}, new int[] {6, 1, 5},
            new int[] {6, 5, 2}, new int[] {2, 5, 4}, new int[] {1, 1, 2});
    }

    private static void eightThatClash() {
        NoWhen x = clashing();
        due("fits", x.fits(), 0);
        due("clash", x.clash(), 255);
        due("drop", x.drop(), 1);
        due("against", x.against(), 15);
        for (int p = 0; p < 4; p++) {
            due("word(" + p + ")", x.word(p), 1);
        }
        due("minute(11, 1)", x.minute(11, 1), -1);
        due("together(0, 5)", x.together(0, 5), 0);
        due("unsay", x.unsay(), 7);
        due("fits of seven", x.fits() > 0 ? 1 : 0, 1);
        due("clash of seven", x.clash(), -1);
        due("drop of seven", x.drop(), 0);
        due("say", x.say(1, 1, 2, 3), 7);
        due("clash of eight again", x.clash(), 255);
        // one more that clashes alone
        x.unsay();
        x.of(5, 2);
        x.of(4, 2);
        due("5 while 4, of one person", x.clash(), 64);
        due("drop of it", x.drop(), 64);
    }

    /** Eight SAYINGS by one: without him there is a FIT; without another there is none. */
    private static void eightOfOne() {
        for (int p = 0; p < 4; p++) {
            NoWhen x = things(2);
            for (int s = 0; s < 8; s++) {
                due("say", x.say(s % 2, 0, 1 - s % 2, p), s);
            }
            due("a 9th", x.say(0, 0, 1, p), -4);
            due("fits", x.fits(), 0);
            due("against", x.against(), 1 << p);
            for (int q = 0; q < 4; q++) {
                due("word(" + q + ")", x.word(q), q == p ? 1 : 0);
            }
            due("clash", x.clash(), 3);
            due("drop", x.drop(), 1 + 4 + 16 + 64);
            for (int left = 7; left >= 0; left--) {
                due("unsay", x.unsay(), left);
                due("count(1)", x.count(1), left);
            }
            due("unsay nothing", x.unsay(), -3);
            due("fits of nothing said", x.fits(), 13);
        }
    }

    /** Eight SAYINGS that tell the same: they count as one, and are kept all. */
    private static void eightAgain() {
        for (int kind = 0; kind < 8; kind++) {
            NoWhen x = things(2), once = things(2);
            once.say(0, kind, 1, 0);
            for (int s = 0; s < 8; s++) {
                x.say(0, kind, 1, s % 4);
            }
            due("eight times kind " + kind, x.fits(), once.fits());
            due("sure", x.sure(), once.sure());
            due("clash", x.clash(), -1);
            due("drop", x.drop(), 0);
            due("ask", x.ask(0), once.ask(0));
            due("together", x.together(0, 1), once.together(0, 1));
        }
    }

    /** Six THINGS, eight SAYINGS, all ENDS watched, by hand: only 3 (with 5) may lie otherwise towards 0 and 1. */
    private static void fullHistory() {
        NoWhen x = Sample.FULL.make();
        // 0 against the row of the others: 2 begins ahead of 0's beginning, with it, behind it, with its end, behind its end
        due("fits", x.fits(), 5);
        int[] first = {0, 1, 3, 4, 2, 5, 6, 8, 7, 9, 6, 10};
        int[] last = {1, 0, 1, 2, 1, 0, 2, 3, 2, 1, 0};
        for (int e = 0; e < 12; e++) {
            due("first(" + e + ")", x.first(e), first[e]);
        }
        for (int m = 0; m < 11; m++) {
            due("last(" + m + ")", x.last(m), last[m]);
        }
        due("moments", x.moments(), 11);
        due("sure", x.sure(), 66 - 2);
        due("between(0, 4)", x.between(0, 4), 7);
        due("between(1, 4)", x.between(1, 4), 7);
        due("between(0, 6)", x.between(0, 6), 1);
        due("between(6, 10)", x.between(6, 10), 2);
        due("ask(0)", x.ask(0), 4);
        due("ask(1)", x.ask(1), 3);
        due("together(0, 2)", x.together(0, 2), 3);
        due("together(0, 1)", x.together(0, 1), 0);
        due("together(1, 2)", x.together(1, 2), 5);
        due("one(-1)", x.one(-1), 0);
        int[] moment = {0, 1, 3, 4, 2, 5, 6, 8, 7, 10, 6, 11};
        for (int e = 0; e < 12; e++) {
            due("minute(" + e + ", 0)", x.minute(e, 0), 9 * moment[e]);
            due("minute(" + e + ", 1)", x.minute(e, 1), 9 * moment[e]);
        }
        due("count(2)", x.count(2), 12);
    }

    // ---- FIRST and LAST

    /** 0 may begin first for all that is said of it and another; but then it would last on while 1 does. */
    private static void firstLooksAhead() {
        NoWhen x = said(3, new int[] {6, 0, 1}, new int[] {1, 1, 2}, new int[] {5, 2, 0});
        due("fits", x.fits(), 1);
        int[] first = {1, 2, 0, 1, 1, 2};
        for (int e = 0; e < 6; e++) {
            due("first(" + e + ")", x.first(e), first[e]);
        }
        due("moments", x.moments(), 3);
    }

    private static void firsts(String name, NoWhen x, int... moment) {
        for (int e = 0; e < moment.length; e++) {
            due(name + ": first(" + e + ")", x.first(e), moment[e]);
        }
    }

    /** Lesser bits first: a later END alone comes ahead of an earlier one with company, fewer MOMENTS count for nothing. */
    private static void firstByBits() {
        firsts("free", things(3), 0, 1, 2, 3, 4, 5);
        firsts("2 ahead of all", said(3, new int[] {0, 2, 0}, new int[] {0, 2, 1}), 2, 3, 4, 5, 0, 1);
        // 0 and 1 begin as one: bits 1 and 4, so 2 (bit 16) waits till the end of 0 (2), and of 1 (8)
        firsts("0 begins 1", said(3, new int[] {4, 0, 1}), 0, 1, 0, 2, 3, 4);
        // the end of 0 (2) comes ahead of the beginning of 1 (4), that ahead of 2's (16)
        firsts("0 while 1", said(2, new int[] {2, 0, 1}), 1, 2, 0, 3);
        firsts("1 while 0", said(2, new int[] {2, 1, 0}), 0, 3, 1, 2);
        firsts("1 cross 0", said(2, new int[] {7, 1, 0}), 1, 3, 0, 2);
        // 1 alone (4) is less than 0 and 1 (5), though 0 has the lesser number
        firsts("1 no later than 0", said(3, new int[] {2, 0, 1}, new int[] {0, 1, 2}), 1, 2, 0, 3, 4, 5);
        firsts("equal", said(2, new int[] {2, 0, 1}, new int[] {2, 1, 0}), 0, 1, 0, 1);
        firsts("apart", said(2, new int[] {6, 1, 0}), 0, 1, 2, 3);
        firsts("all in three moments", said(3, new int[] {1, 2, 1}, new int[] {4, 2, 0}, new int[] {4, 0, 2}), 0, 1, 1, 2, 0, 1);
    }

    private static void lastOfFirst() {
        NoWhen six = things(6);
        for (int t = 1; t < 6; t++) {
            six.say(0, 2, t, 0);
        }
        int[] moments = {1, 2, 3, 4, 5, 6, 5, 4, 3, 2, 1, 0};
        for (int m = 0; m < 12; m++) {
            due("last(" + m + ") of six", six.last(m), moments[m]);
        }
        // one ends as the other begins: one lasts on
        NoWhen meets = said(2, new int[] {1, 0, 1});
        int[] one = {1, 1, 0, -2};
        for (int m = 0; m < 4; m++) {
            due("last(" + m + ") of meets", meets.last(m), one[m]);
        }
        NoWhen equal = said(2, new int[] {2, 0, 1}, new int[] {2, 1, 0});
        due("last(0) of equal", equal.last(0), 2);
        due("last(1) of equal", equal.last(1), 0);
        due("last(2) of equal", equal.last(2), -2);
        due("last(-1) of equal", equal.last(-1), -2);
    }

    // ---- CLASH and DROP

    private static void clashOfLikeOnes() {
        int[] ahead = {0, 0, 1}, back = {0, 1, 0}, never = {6, 0, 1};
        due("0 and 1", said(2, ahead, back).clash(), 3);
        due("0 and 2", said(2, ahead, ahead, back).clash(), 5);
        due("1 and 2 less than 0 and 3", said(3, ahead, new int[] {0, 1, 2}, new int[] {0, 2, 1}, back).clash(), 6);
        due("0 and 1 of all", said(2, ahead, back, ahead, back).clash(), 3);
        due("0 and 3 of all", said(2, ahead, never, ahead, back).clash(), 9);
        due("6 and 7", said(3, never, never, never, never, never, never, new int[] {0, 1, 2}, new int[] {0, 2, 1}).clash(), 192);
        // two are fewer than three, though three lesser ones clash too
        NoWhen x = said(3, ahead, new int[] {0, 1, 2}, new int[] {0, 2, 0}, never, new int[] {7, 0, 1});
        due("two, not the lesser three", x.clash(), 1 | 16);
        x.unsay();
        due("three", x.clash(), 7);
        // one that OF rules out is fewer than two
        x.say(2, 3, 1, 0);
        x.of(1, 2);
        x.of(2, 2);
        due("one", x.clash(), 16);
        x.of(0, 2);
        due("one, all of one person", x.clash(), 16);
    }

    /** A row that comes back to its beginning: all of it clash, and none of them less. */
    private static void clashOfEachSize() {
        for (int n = 2; n <= 6; n++) {
            NoWhen x = things(n);
            for (int t = 0; t < n; t++) {
                x.say(t, 0, (t + 1) % n, t % 4);
            }
            due("clash of " + n, x.clash(), (1 << n) - 1);
            due("drop of " + n, x.drop(), 1);
            due("fits of " + n, x.fits(), 0);
            due("against of " + n, x.against(), n > 3 ? 15 : (1 << n) - 1);
            x.unsay();
            due("fits of a row of " + n, x.fits(), 1);
            due("clash of a row of " + n, x.clash(), -1);
        }
    }

    private static void dropOfLikeOnes() {
        int[] ahead = {0, 0, 1}, back = {0, 1, 0};
        due("0, not 1", said(2, ahead, back).drop(), 1);
        due("2", said(2, ahead, ahead, back).drop(), 4);
        due("0 of 0, 1, 2", said(2, ahead, back, back).drop(), 1);
        due("0 and 2, not 1 and 3", said(2, ahead, back, ahead, back).drop(), 5);
        due("0 and 1, not 2 and 3", said(2, ahead, ahead, back, back).drop(), 3);
        due("3", said(2, ahead, ahead, ahead, back).drop(), 8);
        due("0 and 7", said(2, back, ahead, ahead, ahead, ahead, ahead, ahead, back).drop(), 129);
        // two pairs that clash, each by itself
        due("0 and 1 of two pairs", said(4, ahead, new int[] {0, 2, 3}, back, new int[] {0, 3, 2}).drop(), 3);
        NoWhen x = said(2, new int[] {6, 0, 1}, new int[] {3, 0, 1});
        due("apart and inside", x.drop(), 1);
        x.of(0, 0);
        x.of(1, 0);
        due("apart and inside, of one person", x.drop(), 2);
        x.unsay();
        due("apart, of one person", x.drop(), 0);
    }

    // ---- BETWEEN, SURE, TOGETHER, ASK

    private static void pair(String name, NoWhen x, int e, int f, int bits) {
        due(name + ": between(" + e + ", " + f + ")", x.between(e, f), bits);
        int turned = (bits & 1) << 2 | bits & 2 | bits >> 2;
        due(name + ": between(" + f + ", " + e + ")", x.between(f, e), turned);
    }

    private static void betweenEach() {
        pair("ahead", said(2, new int[] {0, 0, 1}), 1, 2, 1);
        pair("meets", said(2, new int[] {1, 0, 1}), 1, 2, 2);
        pair("while", said(2, new int[] {2, 1, 0}), 0, 2, 3);
        pair("inside", said(2, new int[] {3, 0, 1}), 0, 2, 4);
        pair("apart", said(2, new int[] {6, 0, 1}), 0, 2, 5);
        pair("ends", said(2, new int[] {5, 0, 1}), 0, 2, 6);
        pair("free", things(2), 0, 2, 7);
        // no FIT has them in one MOMENT, though they may be on either side
        pair("apart, and not as one", said(2, new int[] {6, 0, 1}), 1, 3, 5);
        pair("apart", said(2, new int[] {6, 0, 1}), 1, 2, 7);
    }

    private static void sureEach() {
        int[] sure = {6, 6, 4, 6, 5, 5, 2, 6};
        for (int kind = 0; kind < 8; kind++) {
            due("sure of kind " + kind, said(2, new int[] {kind, 0, 1}).sure(), sure[kind]);
        }
        NoWhen x = things(6);
        due("sure of free", x.sure(), 6);
        for (int t = 0; t < 5; t++) {
            x.say(t, t % 2, t + 1, 0);
            int n = t + 2;
            due("sure of a row of " + n, x.sure(), n * (2 * n - 1) + 6 - n);
        }
    }

    /** Of the FITS those in which both last on behind one MOMENT: to meet is not enough. */
    private static void togetherEach() {
        int[] together = {0, 0, 4, 1, 2, 2, 0, 1};
        for (int kind = 0; kind < 8; kind++) {
            NoWhen x = said(2, new int[] {kind, 0, 1});
            due("together of kind " + kind, x.together(0, 1), together[kind]);
            due("together of kind " + kind + " turned", x.together(1, 0), together[kind]);
        }
        due("together of free", things(2).together(1, 0), 9);
        NoWhen x = said(3, new int[] {2, 2, 0}, new int[] {2, 2, 1});
        due("2 while both: always", x.together(0, 1), x.fits());
        due("2 and 0: always", x.together(2, 0), x.fits());
        x.of(0, 3);
        x.of(1, 3);
        due("2 while both, both of one person: no fit", x.fits(), 0);
        due("no fit", x.together(0, 1), 0);
    }

    private static void asks(String name, NoWhen x, long pair, long left) {
        due(name + ": ask(0)", x.ask(0), pair);
        due(name + ": ask(1)", x.ask(1), left);
    }

    private static void askOfLikeOnes() {
        asks("free: 0, 2 and 1, 3 leave 5 each", things(2), 2, 5);
        asks("while: 0, 2 and 1, 3 leave 2 each", said(2, new int[] {2, 0, 1}), 2, 2);
        asks("begins: 1, 3 alone", said(2, new int[] {4, 0, 1}), 103, 1);
        asks("ends: 0, 2 alone", said(2, new int[] {5, 0, 1}), 2, 1);
        asks("apart: 0, 2 and others leave 2 each", said(2, new int[] {6, 0, 1}), 2, 2);
        for (int kind : new int[] {0, 1, 3, 7}) {
            asks("all sure", said(2, new int[] {kind, 0, 1}), -1, -1);
        }
        // a row of 0 and 2, 1 anywhere: its beginning ahead of the end of 0 in 23 of 41; as many for its end and 2
        asks("1, 2 and 3, 4 leave 23 each", said(3, new int[] {0, 0, 2}), 102, 23);
        // the first pair that is not SURE leaves more than a later one
        NoWhen x = said(3, new int[] {4, 0, 1}, new int[] {0, 2, 0});
        asks("1, 3 behind many that are sure", x, 103, 1);
        // both numbers of two figures
        NoWhen y = things(6);
        for (int t = 0; t < 4; t++) {
            y.say(t, 0, t + 1, 0);
        }
        y.say(4, 4, 5, 0);
        asks("the last two", y, 911, 1);
    }

    // ---- ONE, WORD, AGAINST

    private static NoWhen stories(NoWhen x, int... story) {
        for (int t = 0; t < story.length; t++) {
            x.story(t, story[t]);
        }
        return x;
    }

    /** To be one they begin in one MOMENT and end in one. */
    private static void oneBeginsAndEnds() {
        int[] begins = {4, 0, 1}, ends = {5, 0, 1};
        due("they may be one", stories(said(2, begins), 0, 1).one(-1), 1);
        due("they may be one", stories(said(2, ends), 0, 1).one(-1), 1);
        for (int kind = 0; kind < 8; kind++) {
            int can = kind == 2 || kind == 4 || kind == 5 ? 1 : 0;
            due("one of kind " + kind, stories(said(2, new int[] {kind, 0, 1}), 0, 1).one(-1), can);
        }
        // 0 and 1 begin as one, but 2 comes behind the end of 0 and ahead of that of 1
        NoWhen x = stories(said(4, begins, new int[] {0, 0, 2}, new int[] {2, 2, 1}), 0, 1, 0, 1);
        due("they end otherwise", x.one(-1), 0);
        due("they end otherwise", x.one(0), -5);
        // 0 and 1 end as one, but 2 comes ahead of the beginning of 0 and behind that of 1
        NoWhen y = stories(said(4, ends, new int[] {0, 2, 0}, new int[] {2, 2, 1}), 0, 1, 0, 1);
        due("they begin otherwise", y.one(-1), 0);
        // each way is a way by itself, though no FIT has all of them
        NoWhen row = stories(said(4, new int[] {0, 0, 1}), 0, 0, 1, 1);
        due("two ways", row.one(-1), 2);
        due("0 is 2", row.one(0), 2);
        due("1 is 3", row.one(1), 3);
        due("no third", row.one(2), -5);
        row.say(3, 0, 2, 0);
        due("one way", row.one(-1), 1);
        due("0 is 3", row.one(0), 3);
        due("1 is 2", row.one(1), 2);
        NoWhen rows = stories(said(6, new int[] {0, 0, 2}, new int[] {0, 2, 4}), 0, 1, 0, 1, 0, 1);
        due("six ways", rows.one(-1), 6);
        // two of one person can not be one, of two people they can
        NoWhen z = stories(things(4), 1, 1, 0, 0);
        z.of(0, 2);
        z.of(2, 2);
        due("0 is not 2", z.one(-1), 1);
        due("2 is 1", z.one(0), 1);
        due("3 is 0", z.one(1), 0);
        z.of(1, 1);
        z.of(3, 1);
        due("nor 1 is 3", z.one(-1), 1);
        z.of(3, 2);
        z.of(1, 2);
        due("none is one", z.one(-1), 0);
        z.of(0, 3);
        due("1 is not one of two", z.one(-1), 0);
    }

    /** Of all ways the first: the mate of the least THING of STORY 0 as little as can be, then of the next. */
    private static void oneOfLikeOnes() {
        NoWhen x = stories(things(6), 1, 0, 0, 1, 0, 1);
        due("all ways", x.one(-1), 6);
        int[] mates = {0, 3, 5, -5};
        for (int i = 0; i < 4; i++) {
            due("mate of " + i, x.one(i), mates[i]);
        }
        x.say(0, 0, 1, 0);
        due("1 is not 0", x.one(-1), 4);
        int[] second = {3, 0, 5, -5};
        for (int i = 0; i < 4; i++) {
            due("mate of " + i, x.one(i), second[i]);
        }
        x.say(3, 0, 1, 0);
        x.say(0, 0, 2, 0);
        due("1 is 5, 2 is 3", x.one(-1), 1);
        int[] third = {5, 3, 0, -5};
        for (int i = 0; i < 4; i++) {
            due("mate of " + i, x.one(i), third[i]);
        }
        x.say(4, 3, 0, 0);
        due("no way", x.one(-1), 0);
        for (int i = 0; i < 4; i++) {
            due("no mate of " + i, x.one(i), -5);
        }
        due("but there is a fit", x.fits() > 0 ? 1 : 0, 1);
    }

    private static void wordOfEach() {
        for (int p = 0; p < 4; p++) {
            for (int q = 0; q < 4; q++) {
                NoWhen x = things(2);
                x.say(0, 0, 1, p);
                x.say(1, 0, 0, q);
                due("against " + p + " and " + q, x.against(), 1 << p | 1 << q);
                for (int r = 0; r < 4; r++) {
                    due("word(" + r + ")", x.word(r), r == p || r == q ? 1 : 0);
                }
            }
        }
        // three that clash two by two: no one alone
        NoWhen x = things(2);
        x.say(0, 0, 1, 0);
        x.say(0, 1, 1, 1);
        x.say(0, 3, 1, 2);
        due("no one alone", x.against(), 0);
        x.unsay();
        due("either of two", x.against(), 3);
        x.unsay();
        due("everyone", x.against(), 15);
        // one's own SAYINGS clash: without him there is a FIT
        x.say(1, 0, 0, 0);
        due("his own clash", x.against(), 1);
    }

    // ---- THE WATCH

    /** One THING: it ends later than it begins, both from 0 to 99. */
    private static void minutesOfOne() {
        int[] minutes = {-1, 0, 1, 2, 50, 97, 98, 99};
        for (int begin : minutes) {
            for (int end : minutes) {
                NoWhen x = things(1);
                due("watch(0, " + begin + ")", x.watch(0, begin), -1);
                due("watch(1, " + end + ")", x.watch(1, end), -1);
                boolean can = begin < 99 && end != 0 && (begin < 0 || end < 0 || begin < end);
                int[] want = {begin < 0 ? 0 : begin, begin >= 0 ? begin : end < 0 ? 98 : end - 1,
                    end >= 0 ? end : begin < 0 ? 1 : begin + 1, end < 0 ? 99 : end};
                for (int k = 0; k < 4; k++) {
                    due("minute(" + k / 2 + ", " + k % 2 + ") of " + begin + " .. " + end, x.minute(k / 2, k % 2), can ? want[k] : -1);
                }
            }
        }
    }

    private static void range(NoWhen x, int end, int soonest, int latest) {
        due("minute(" + end + ", 0)", x.minute(end, 0), soonest);
        due("minute(" + end + ", 1)", x.minute(end, 1), latest);
    }

    /** One MOMENT has one MINUTE, two MOMENTS have two. */
    private static void minutesOfOneMoment() {
        NoWhen x = said(2, new int[] {1, 0, 1});
        x.watch(1, 30);
        range(x, 2, 30, 30);
        x.watch(2, 30);
        range(x, 1, 30, 30);
        range(x, 0, 0, 29);
        range(x, 3, 31, 99);
        x.watch(2, 31);
        range(x, 1, -1, -1);
        range(x, 0, -1, -1);
        x.unsay();
        // without the SAYING they may be two MOMENTS
        range(x, 0, 0, 29);
        x.watch(2, 30);
        range(x, 0, 0, 29);
        x.say(0, 0, 1, 0);
        range(x, 0, -1, -1);
        x.watch(2, 31);
        range(x, 0, 0, 29);
        range(x, 3, 32, 99);
        x.unsay();
        x.say(0, 7, 1, 0);
        range(x, 0, -1, -1);
        x.watch(2, 29);
        range(x, 0, 0, 28);
        range(x, 3, 31, 99);
        // told of the same MINUTE, ENDS of two THINGS are one MOMENT: so 1 can not be inside of 0
        NoWhen y = said(2, new int[] {2, 1, 0});
        y.watch(0, 5);
        y.watch(2, 5);
        range(y, 3, 6, 99);
        y.unsay();
        y.say(1, 3, 0, 0);
        range(y, 3, -1, -1);
    }

    /** Between two told MOMENTS, or one and the first or last MINUTE, there must be room for all that come between. */
    private static void minutesWithoutRoom() {
        NoWhen x = things(6);
        for (int t = 0; t < 5; t++) {
            x.say(t, 0, t + 1, 0);
        }
        for (int e = 0; e < 12; e++) {
            NoWhen y = things(6);
            for (int t = 0; t < 5; t++) {
                y.say(t, 0, t + 1, 0);
            }
            y.watch(e, e);
            range(y, 0, 0, 0);
            range(y, e, e, e);
            range(y, 11, 11, e == 11 ? 11 : 99);
            y.watch(e, 88 + e);
            range(y, 11, 99, 99);
            range(y, 0, e == 0 ? 88 : 0, 88);
            if (e > 0) {
                y.watch(e, e - 1);
                range(y, 5, -1, -1);
            }
            if (e < 11) {
                y.watch(e, 89 + e);
                range(y, 5, -1, -1);
            }
        }
        x.watch(3, 40);
        x.watch(8, 45);
        range(x, 4, 41, 41);
        range(x, 7, 44, 44);
        range(x, 2, 2, 39);
        range(x, 9, 46, 97);
        x.watch(8, 44);
        range(x, 4, -1, -1);
        range(x, 0, -1, -1);
        x.watch(8, 46);
        range(x, 4, 41, 42);
        range(x, 7, 44, 45);
        x.watch(8, -1);
        range(x, 4, 41, 92);
        x.watch(3, -1);
        range(x, 4, 4, 92);
    }

    private static void watchOfAll() {
        NoWhen x = things(6);
        for (int e = 0; e < 12; e++) {
            due("watch", x.watch(e, 99 - e), -1);
            due("count(2)", x.count(2), e + 1);
        }
        for (int e = 0; e < 12; e++) {
            range(x, e, -1, -1);
        }
        for (int e = 0; e < 12; e++) {
            due("watch again", x.watch(e, e), 99 - e);
        }
        for (int e = 0; e < 12; e++) {
            range(x, e, e, e);
        }
        for (int e = 0; e < 12; e++) {
            due("watch of none", x.watch(e, -1), e);
            due("count(2)", x.count(2), 11 - e);
        }
        range(x, 11, 1, 99);
        // the watch changes no FITS
        x.watch(0, 99);
        due("fits", x.fits(), 308682013);
        due("clash", x.clash(), -1);
        due("first(0)", x.first(0), 0);
    }

    // ---- THE TEXT

    /** The lowest n bytes and no others, the highest of them first, for each n. */
    private static void textByBytes() {
        String text = "things 2;of 1 3; story 1;0 cross 1 by 2;";
        for (int n = 1; n <= 8; n++) {
            for (long above : new long[] {0, -1, 0x7b7b_7b7b_7b7b_7b7bL}) {
                NoWhen x = new NoWhen();
                for (int from = 0; from < text.length(); from += n) {
                    long v = above;
                    for (int k = from; k < from + n; k++) {
                        v = v << 8 | (k < text.length() ? text.charAt(k) : ' ');
                    }
                    due("type", x.type(v, n), from + n);
                }
                due("read by " + n, x.read(), 1);
                NoWhen told = things(2);
                told.of(1, 3);
                told.story(1, 1);
                told.say(0, 7, 1, 2);
                x.clear();
                due("digest by " + n, x.digest(), told.digest());
            }
        }
    }

    private static void textFullAndEmpty() {
        NoWhen x = new NoWhen();
        for (int round = 0; round < 2; round++) {
            for (int n = 1; n <= 200; n++) {
                due("type", x.type(' ', 1), n);
            }
            due("one more", x.type(' ', 1), -4);
            due("count(3)", x.count(3), 200);
            due("read of 200 blanks", x.read(), -210);
            due("clear", x.clear(), 200);
            due("count(3)", x.count(3), 0);
            due("read of nothing", x.read(), -10);
        }
        // what was cleared is not read again
        Checks.typed(x, "things 2;0 ahead 1;");
        x.clear();
        Checks.typed(x, "things 3;");
        due("read", x.read(), 0);
        due("things", x.count(0), 3);
        due("clear", x.clear(), 9);
        due("things stay", x.count(0), 3);
    }

    // ---- IMAGES, STATUS

    /** An IMAGE keeps THINGS, OF, STORY, SAYINGS, THE WATCH; THE TEXT, STATUS and the other IMAGE go on as they are. */
    private static void imagesOfAll() {
        for (int i = 0; i < 2; i++) {
            NoWhen x = Sample.FULL.make(), kept = Sample.FULL.make();
            x.image(i);
            x.clear();
            kept.clear();
            Checks.typed(x, "things 1;");
            Checks.typed(kept, "things 1;");
            x.read();
            x.thing();
            x.say(0, 0, 1, 0);
            x.watch(3, 3);
            x.image(1 - i);
            x.first(99);
            due("from(" + i + ")", x.from(i), 1);
            Checks.same("status stays", Look.status(x), "4 BAD, 2 NO, 1 FULL");
            Checks.same("the image", Look.at(x), Look.at(kept));
            due("the text stays", x.count(3), 9);
            due("the other image", x.from(1 - i), 1);
            due("things", x.count(0), 2);
            due("watch", x.watch(3, 3), 3);
            // to go on from an IMAGE does not change it, nor does what comes behind
            x.from(i);
            for (int t = 0; t < 6; t++) {
                x.of(t, 3);
                x.story(t, 1 - t / 3);
                x.watch(2 * t, 1);
            }
            x.unsay();
            x.say(5, 7, 0, 0);
            x.from(i);
            due("the image again", x.digest(), kept.digest());
        }
    }

    private static void imageOfEmpty() {
        NoWhen x = new NoWhen();
        due("image(1)", x.image(1), 1);
        due("from(0)", x.from(0), -3);
        x.thing();
        x.watch(0, 4);
        due("image(0)", x.image(0), 1);
        due("from(1)", x.from(1), 1);
        due("things", x.count(0), 0);
        due("watch", x.count(2), 0);
        due("from(0)", x.from(0), 1);
        due("things", x.count(0), 1);
        due("watch", x.watch(0, -1), 4);
        due("image(0) over the old one", x.image(0), 1);
        x.watch(0, 7);
        x.from(0);
        due("watch", x.watch(0, -1), -1);
        // an IMAGE keeps no IMAGES: the other one is as it was kept
        x.from(1);
        x.image(0);
        x.thing();
        x.image(1);
        x.from(0);
        due("things of 0", x.count(0), 0);
        x.from(1);
        due("things of 1", x.count(0), 1);
    }

    /** All calls of an object's life may be refused, each for one reason. */
    private static void statusOf512() {
        NoWhen bad = new NoWhen(), no = new NoWhen(), full = things(6);
        for (int k = 0; k < 508; k++) {
            due("bad", bad.count(4 + k), -2);
            due("no", no.unsay(), -3);
        }
        for (int k = 0; k < 502; k++) {
            due("full", full.thing(), -4);
        }
        Checks.same("status", Look.status(bad), "508 BAD, 0 NO, 0 FULL");
        Checks.same("status", Look.status(no), "0 BAD, 508 NO, 0 FULL");
        Checks.same("status", Look.status(full), "0 BAD, 0 NO, 502 FULL");
    }

    /** What was asked before a change is not told again behind it: all that is asked is as in an object never asked before. */
    private static void nothingTwice() {
        Call[] changes = {Call.thing(), Call.of(0, 2), Call.of(0, -1), Call.story(2, 0), Call.story(1, 1), Call.say(1, 0, 0, 1),
            Call.say(0, 0, 1, 1), Call.unsay(), Call.watch(0, 3), Call.watch(0, -1), Call.watch(5, 0), Call.read(), Call.from(0),
            Call.image(0), Call.clear(), Call.type(' ', 1)};
        for (Call change : changes) {
            for (Sample sample : new Sample[] {Sample.SOME, Sample.NO_FIT}) {
                NoWhen x = sample.make(), never = sample.make();
                Look.at(x);
                due(change.name(), change.on(x), change.on(never));
                Checks.same(sample.name() + " behind " + change.name(), Look.through(x), Look.through(never));
            }
        }
    }

    private static long digestOf(int[][] things, int[][] sayings, int[] watch, int bytes) {
        int watched = 0;
        for (int minute : watch) {
            watched += minute == -1 ? 0 : 1;
        }
        long h = 709;
        for (int count : new int[] {things.length, sayings.length, watched, bytes}) {
            h = 31 * h + count;
        }
        for (int[][] rows : new int[][][] {things, sayings, {watch}}) {
            for (int[] row : rows) {
                for (int v : row) {
                    h = 31 * h + v;
                }
            }
        }
        return h;
    }

    /** Behind the call this is what there is; THE TEXT (but by type and clear), the IMAGES and STATUS are as they were. */
    private static void leaves(Call call, long digest, int read) {
        NoWhen x = Sample.SOME.make();
        call.on(x);
        due("digest behind " + call.name(), x.digest(), digest);
        Checks.same("status behind " + call.name(), Look.status(x), Sample.STATUS);
        due("read behind " + call.name(), x.read(), read);
        if (read == 1) {
            int bytes = x.count(3);
            long told = digestOf(new int[][] {{-1, 0}, {-1, 1}}, new int[][] {{7, 1, 0, 2}}, new int[] {-1, -1, -1, -1}, bytes);
            due("digest of the text behind " + call.name(), x.digest(), told);
        }
        due("from(0) behind " + call.name(), x.from(0), 1);
        x.clear();
        long image = digestOf(new int[][] {{-1, 0}, {-1, 0}}, new int[][] {{1, 0, 1, 3}}, new int[] {-1, -1, -1, 40}, 0);
        due("digest of the image behind " + call.name(), x.digest(), call.name().equals("image(0)") ? someWith(0) : image);
        due("from(1) behind " + call.name(), x.from(1), call.name().equals("image(1)") ? 1 : -3);
    }

    private static long someWith(int bytes) {
        return digestOf(SOME_THINGS, SOME_SAYINGS, SOME_WATCH, bytes);
    }

    private static void eachChangesItsOwn() {
        due("digest of some", Sample.SOME.make().digest(), someWith(32));
        int[][] two = {{1, 0, 1, 3}}, three = {{1, 0, 1, 3}, {2, 2, 1, 0}, {5, 0, 2, 3}};
        int[] wide = {7, -1, -1, 40, -1, -1, -1, -1};
        leaves(Call.thing(), digestOf(new int[][] {{1, 0}, {-1, 0}, {1, 1}, {-1, 0}}, SOME_SAYINGS, wide, 32), 1);
        leaves(Call.of(1, 3), digestOf(new int[][] {{1, 0}, {3, 0}, {1, 1}}, SOME_SAYINGS, SOME_WATCH, 32), 1);
        leaves(Call.of(2, -1), digestOf(new int[][] {{1, 0}, {-1, 0}, {-1, 1}}, SOME_SAYINGS, SOME_WATCH, 32), 1);
        leaves(Call.story(0, 1), digestOf(new int[][] {{1, 1}, {-1, 0}, {1, 1}}, SOME_SAYINGS, SOME_WATCH, 32), 1);
        leaves(Call.story(2, 0), digestOf(new int[][] {{1, 0}, {-1, 0}, {1, 0}}, SOME_SAYINGS, SOME_WATCH, 32), 1);
        leaves(Call.say(0, 5, 2, 3), digestOf(SOME_THINGS, three, SOME_WATCH, 32), 1);
        leaves(Call.unsay(), digestOf(SOME_THINGS, two, SOME_WATCH, 32), 1);
        leaves(Call.watch(0, -1), digestOf(SOME_THINGS, SOME_SAYINGS, new int[] {-1, -1, -1, 40, -1, -1}, 32), 1);
        leaves(Call.watch(5, 99), digestOf(SOME_THINGS, SOME_SAYINGS, new int[] {7, -1, -1, 40, -1, 99}, 32), 1);
        leaves(Call.watch(3, 0), digestOf(SOME_THINGS, SOME_SAYINGS, new int[] {7, -1, -1, 0, -1, -1}, 32), 1);
        leaves(Call.type(' ', 1), someWith(33), 1);
        leaves(Call.type(';', 1), someWith(33), -10 - 32);
        leaves(Call.clear(), someWith(0), -10);
        leaves(Call.image(0), someWith(32), 1);
        leaves(Call.image(1), someWith(32), 1);
        leaves(Call.from(0), digestOf(new int[][] {{-1, 0}, {-1, 0}}, two, new int[] {-1, -1, -1, 40}, 32), 1);
        leaves(Call.read(), digestOf(new int[][] {{-1, 0}, {-1, 1}}, new int[][] {{7, 1, 0, 2}}, new int[] {-1, -1, -1, -1}, 32), 1);
        Call[] asking = {Call.fits(), Call.first(0), Call.moments(), Call.last(0), Call.clash(), Call.drop(), Call.between(0, 1), Call.sure(),
            Call.together(0, 1), Call.ask(0), Call.ask(1), Call.word(0), Call.against(), Call.minute(0, 0), Call.status(0), Call.count(0),
            Call.digest()};
        for (Call call : asking) {
            leaves(call, someWith(32), 1);
        }
    }
}
