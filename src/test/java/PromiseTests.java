/** Each promise of the document by itself: ordinary calls, the edges it names, wrong numbers. */
public final class PromiseTests {
    private static final int LOW = Integer.MIN_VALUE, HIGH = Integer.MAX_VALUE;

    private PromiseTests() {
    }

    public static void main(String[] args) {
        p1NewObject();
        p2Thing();
        p3Of();
        p4Story();
        p5Say();
        p5Kinds();
        p6Unsay();
        p7Type();
        p8Clear();
        p9Read();
        p9Tokens();
        p9Faults();
        p10Fits();
        p11First();
        p12Moments();
        p13Last();
        p14Clash();
        p15Drop();
        p16Between();
        p17Sure();
        p18Together();
        p19Ask();
        p20One();
        p21Word();
        p22Against();
        p23Watch();
        p24Minute();
        p25Image();
        p26From();
        p27Status();
        p28Count();
        p29Digest();
        manyCalls();
        Checks.end("PromiseTests");
    }

    private static void due(String call, long got, long want) {
        Checks.due(call, got, want);
    }

    private static void counts(String where, NoWhen x, int things, int sayings, int watched, int bytes) {
        due(where + ": count(0)", x.count(0), things);
        due(where + ": count(1)", x.count(1), sayings);
        due(where + ": count(2)", x.count(2), watched);
        due(where + ": count(3)", x.count(3), bytes);
    }

    private static void refused(String where, NoWhen x, int bad, int no, int full) {
        due(where + ": status(0)", x.status(0), bad);
        due(where + ": status(1)", x.status(1), no);
        due(where + ": status(2)", x.status(2), full);
    }

    private static long sum(long... values) {
        long h = 709;
        for (long v : values) {
            h = 31 * h + v;
        }
        return h;
    }

    private static void p1NewObject() {
        NoWhen x = new NoWhen();
        counts("new", x, 0, 0, 0, 0);
        refused("new", x, 0, 0, 0);
        due("new: digest", x.digest(), sum(0, 0, 0, 0));
        due("new: fits", x.fits(), 1);
        due("new: from(0)", x.from(0), -3);
        due("new: from(1)", x.from(1), -3);
        due("new: read", x.read(), -10);
        due("new: against", x.against(), 15);
    }

    private static void p2Thing() {
        NoWhen x = new NoWhen();
        for (int t = 0; t < 6; t++) {
            due("thing", x.thing(), t);
        }
        due("a 7th thing", x.thing(), -4);
        due("an 8th thing", x.thing(), -4);
        counts("six things", x, 6, 0, 0, 0);
        refused("six things", x, 0, 0, 2);
        due("of a new thing", x.of(5, 0), -1);
        due("story of a new thing", x.story(5, 0), 0);
        due("watch of a new thing's end", x.watch(11, 3), -1);
    }

    private static void p3Of() {
        NoWhen x = Checks.things(2);
        due("of(0, 3)", x.of(0, 3), -1);
        due("of(0, 0)", x.of(0, 0), 3);
        due("of(0, -1)", x.of(0, -1), 0);
        due("of(0, 1)", x.of(0, 1), -1);
        int[][] bad = {{2, 0}, {-1, 0}, {0, 4}, {0, -2}, {LOW, 0}, {HIGH, 0}, {0, LOW}, {0, HIGH}};
        for (int[] b : bad) {
            due("of(" + b[0] + ", " + b[1] + ")", x.of(b[0], b[1]), -10);
        }
        refused("of", x, bad.length, 0, 0);
        due("of after wrong ones", x.of(0, 1), 1);
        due("one person's, one nobody's", x.fits(), 13);
        x.of(1, 1);
        due("both of one person", x.fits(), 4);
        x.of(1, 2);
        due("of two people", x.fits(), 13);
        x.of(0, -1);
        x.of(1, -1);
        due("both of nobody", x.fits(), 13);
    }

    private static void p4Story() {
        NoWhen x = Checks.things(2);
        due("story(1, 1)", x.story(1, 1), 0);
        due("story(1, 1) again", x.story(1, 1), 1);
        due("story(1, 0)", x.story(1, 0), 1);
        int[][] bad = {{2, 0}, {-1, 0}, {0, 2}, {0, -1}, {LOW, 1}, {HIGH, 1}, {0, LOW}, {0, HIGH}};
        for (int[] b : bad) {
            due("story(" + b[0] + ", " + b[1] + ")", x.story(b[0], b[1]), -2);
        }
        refused("story", x, bad.length, 0, 0);
        due("story after wrong ones", x.story(0, 0), 0);
    }

    private static void p5Say() {
        NoWhen x = Checks.things(3);
        int[][] bad = {{0, 0, 0, 0}, {3, 0, 0, 0}, {0, 0, 3, 0}, {-1, 0, 0, 0}, {0, 0, -1, 0}, {0, 8, 1, 0}, {0, -1, 1, 0},
            {0, 0, 1, 4}, {0, 0, 1, -1}, {LOW, 0, 1, 0}, {0, LOW, 1, 0}, {0, 0, HIGH, 0}, {0, 0, 1, HIGH}};
        for (int[] b : bad) {
            due("say " + b[0] + " " + b[1] + " " + b[2] + " " + b[3], x.say(b[0], b[1], b[2], b[3]), -2);
        }
        refused("say", x, bad.length, 0, 0);
        counts("say", x, 3, 0, 0, 0);
        for (int s = 0; s < 8; s++) {
            due("say", x.say(0, 6, 2, s % 4), s);
        }
        due("a 9th saying", x.say(0, 6, 1, 0), -4);
        due("a 9th saying, wrong", x.say(1, 6, 1, 0), -2);
        due("a 9th saying by nobody", x.say(0, 6, 1, -1), -2);
        refused("say", x, bad.length + 2, 0, 1);
        due("sayings", x.count(1), 8);
        due("fits", x.fits(), apartOfThree());
    }

    /** THINGS 0 and 2 apart, a third one free: each of the 4 orders of the two, with the third put in all ways. */
    private static long apartOfThree() {
        NoWhen x = Checks.things(3);
        x.of(0, 1);
        x.of(2, 1);
        return x.fits();
    }

    /** For two THINGS: how many ORDERS keep each KIND, and which of them is the first. */
    private static void p5Kinds() {
        int[] fits = {1, 1, 4, 1, 2, 2, 4, 1};
        int[][] first = {{0, 1, 2, 3}, {0, 1, 1, 2}, {1, 2, 0, 3}, {1, 2, 0, 3}, {0, 1, 0, 2}, {1, 2, 0, 2}, {0, 1, 2, 3}, {0, 2, 1, 3}};
        for (int kind = 0; kind < 8; kind++) {
            NoWhen x = Checks.things(2);
            x.say(0, kind, 1, 0);
            due("fits of kind " + kind, x.fits(), fits[kind]);
            NoWhen y = Checks.things(2);
            y.say(1, kind, 0, 0);
            due("fits of kind " + kind + " turned", y.fits(), fits[kind]);
            for (int e = 0; e < 4; e++) {
                due("first(" + e + ") of kind " + kind, x.first(e), first[kind][e]);
            }
        }
        NoWhen both = Checks.things(2);
        both.say(0, 2, 1, 0);
        both.say(1, 2, 0, 0);
        due("while one another", both.fits(), 1);
        due("they begin in one moment", both.between(0, 2), 2);
        due("they end in one moment", both.between(1, 3), 2);
    }

    private static void p6Unsay() {
        NoWhen x = Checks.things(2);
        due("unsay nothing", x.unsay(), -3);
        x.say(0, 0, 1, 0);
        x.say(1, 0, 0, 0);
        due("fits", x.fits(), 0);
        due("unsay", x.unsay(), 1);
        due("fits", x.fits(), 1);
        due("unsay", x.unsay(), 0);
        due("fits", x.fits(), 13);
        due("unsay nothing", x.unsay(), -3);
        refused("unsay", x, 0, 2, 0);
        due("say again", x.say(0, 3, 1, 2), 0);
        due("digest", x.digest(), sum(2, 1, 0, 0, -1, 0, -1, 0, 3, 0, 1, 2, -1, -1, -1, -1));
    }

    private static void p7Type() {
        NoWhen x = new NoWhen();
        int[] bad = {0, 9, -1, LOW, HIGH};
        for (int b : bad) {
            due("type(1, " + b + ")", x.type(1L, b), -2);
        }
        refused("type", x, bad.length, 0, 0);
        for (int n = 1; n <= 25; n++) {
            due("type", x.type(-1L, 8), 8 * n);
        }
        due("type(0, 1) over 200", x.type(0L, 1), -4);
        due("type(0, 8) over 200", x.type(0L, 8), -4);
        due("type(0, 9) over 200", x.type(0L, 9), -2);
        refused("type", x, bad.length + 1, 0, 2);
        due("bytes", x.count(3), 200);
        x.clear();
        due("197 bytes", Checks.typed(x, "x".repeat(197)), 197);
        due("4 more", x.type(0L, 4), -4);
        due("still 197", x.count(3), 197);
        due("3 more", x.type(0L, 3), 200);
        // only the lowest bytes count, the highest of them first
        NoWhen y = new NoWhen();
        due("type things", y.type(0x7f74_6869_6e67_7320L, 7), 7);
        due("type 1", y.type(0x3231L, 1), 8);
        due("type ;", y.type(0xffff_ffff_ffff_ff3bL, 1), 9);
        due("read", y.read(), 0);
        due("things", y.count(0), 1);
    }

    private static void p8Clear() {
        NoWhen x = new NoWhen();
        due("clear nothing", x.clear(), 0);
        Checks.typed(x, "things 2;");
        due("clear", x.clear(), 9);
        due("bytes", x.count(3), 0);
        due("clear again", x.clear(), 0);
        due("read nothing", x.read(), -10);
        Checks.typed(x, "things 3;");
        due("read", x.read(), 0);
        due("things", x.count(0), 3);
        due("the text stays", x.count(3), 9);
        refused("clear", x, 0, 0, 0);
    }

    private static void p9Read() {
        NoWhen x = Checks.things(2);
        x.say(0, 3, 1, 2);
        x.of(0, 1);
        x.story(1, 1);
        x.watch(0, 4);
        x.image(0);
        Checks.typed(x, "things 4;of 1 3;story 2;0 ahead 1;of 1 0;3 cross 2 by 3;");
        due("read", x.read(), 2);
        due("digest", x.digest(), sum(4, 2, 0, 56, -1, 0, 0, 0, -1, 1, -1, 0, 0, 0, 1, 0, 7, 3, 2, 3,
            -1, -1, -1, -1, -1, -1, -1, -1));
        x.watch(0, 5);
        due("read again", x.read(), 2);
        due("the watch is read away", x.count(2), 0);
        due("an image stays", x.from(0), 1);
        due("of the image", x.of(0, 1), 1);
        // a FAULT changes nothing
        NoWhen y = Checks.things(2);
        y.watch(3, 9);
        y.say(1, 2, 0, 3);
        long before = y.digest();
        Checks.typed(y, "things 3;0 ahead 1;0 ahead 0;");
        due("read with a fault", y.read(), -10 - 27);
        y.clear();
        due("all stays", y.digest(), before);
        refused("a fault is none of the three", y, 0, 0, 0);
        String[] kinds = {"ahead", "meets", "while", "inside", "begins", "ends", "apart", "cross"};
        for (int kind = 0; kind < 8; kind++) {
            NoWhen z = new NoWhen();
            Checks.typed(z, "things 2;1 " + kinds[kind] + " 0 by 2;");
            due("read " + kinds[kind], z.read(), 1);
            z.clear();
            due("digest of " + kinds[kind], z.digest(), sum(2, 1, 0, 0, -1, 0, -1, 0, kind, 1, 0, 2, -1, -1, -1, -1));
        }
    }

    private static void p9Tokens() {
        due("no blanks", Checks.readOf("things3;of0 1;story2;0ahead1by2;1meets2;"), 2);
        due("many blanks", Checks.readOf("   things   3  ;  of  0   1 ; story  2 ;  0  ahead  1  by  2  ;   "), 1);
        due("six things", Checks.readOf("things 6;5 ahead 4;"), 1);
        due("one thing", Checks.readOf("things 1;"), 0);
        due("of again and again", Checks.readOf("things 1;of 0 0;of 0 1;of 0 3;story 0;story 0;"), 0);
        String eight = "things 2;0 apart 1;0 apart 1;0 apart 1;0 apart 1;0 apart 1;0 apart 1;0 apart 1;0 apart 1;";
        due("eight sayings", Checks.readOf(eight), 8);
        due("eight sayings and more", Checks.readOf(eight + "of 0 1;story 1;"), 8);
        due("200 bytes", Checks.readOf("things 2;" + " ".repeat(190) + " "), 0);
        String full = "things 2;" + " ".repeat(180) + "0 ahead 1;";
        due("199 bytes", Checks.readOf(full), 1);
        due("200 bytes ended", Checks.readOf(" " + full), 1);
    }

    private static void fault(String text, int place) {
        due("read of '" + text + "'", Checks.readOf(text), -10 - place);
    }

    private static void p9Faults() {
        fault("", 0);
        fault("   ", 3);
        fault("thing 2;", 0);
        fault("  thingss 2;", 2);
        fault("things", 6);
        fault("things ", 7);
        fault("things 2", 8);
        fault("things 2 ", 9);
        fault("things 0;", 7);
        fault("things 7;", 7);
        fault("things 12;", 7);
        fault("things 02;", 7);
        fault("things ;", 7);
        fault("things two;", 7);
        fault("things 2 2;", 9);
        fault("of 0 1;things 2;", 0);
        fault("0 ahead 1;things 2;", 0);
        fault(";things 2;", 0);
        fault("things 2;;", 9);
        fault("things 2; things 2;", 10);
        fault("things 2;of", 11);
        fault("things 2;of 0", 13);
        fault("things 2;of 0 1", 15);
        fault("things 2;of 0;", 13);
        fault("things 2;of 01;", 12);
        fault("things 2;of 2 1;", 12);
        fault("things 2;of 1 4;", 14);
        fault("things 2;of 1 1 1;", 16);
        fault("things 2;of 1 10;", 14);
        fault("things 2;story 2;", 15);
        fault("things 2;story 1 1;", 17);
        fault("things 2;story", 14);
        fault("things 2;2 ahead 1;", 9);
        fault("things 2;0 ahead 2;", 17);
        fault("things 2;1 ahead 1;", 17);
        fault("things 2;0 ahead 0;", 17);
        fault("things 2;1 meets 1;", 17);
        fault("things 2;0 ahead 11;", 17);
        fault("things 2;00 ahead 1;", 9);
        fault("things 2;0 aheads 1;", 11);
        fault("things 2;0 ahea 1;", 11);
        fault("things 2;0 things 1;", 11);
        fault("things 2;0 by 1;", 11);
        fault("things 2;0 of 1;", 11);
        fault("things 2;0 story 1;", 11);
        fault("things 2;0 1;", 11);
        fault("things 2;0;", 10);
        fault("things 2;0 ahead;", 16);
        fault("things 2;0 ahead ahead 1;", 17);
        fault("things 2;0 ahead 1 by 4;", 22);
        fault("things 2;0 ahead 1 by;", 21);
        fault("things 2;0 ahead 1 by", 21);
        fault("things 2;0 ahead 1 by 1", 23);
        fault("things 2;0 ahead 1 by 1 by 1;", 24);
        fault("things 2;0 ahead 1", 18);
        fault("things 2;0 ahead 1 of;", 19);
        fault("things 2;0 ahead", 16);
        fault("things 2;0", 10);
        fault("things 2;ahead 1;", 9);
        fault("things 2;by 1;", 9);
        fault("things 2;0 Ahead 1;", 11);
        fault("things 2;0 ahead 1.", 18);
        fault("things 2;\t", 9);
        fault("things 2;\0", 9);
        fault("things 2;\u00ff", 9);
        fault("things 2;0 ahead\n1;", 16);
        fault("things 2;0 ah ead 1;", 11);
        fault("thin gs 2;", 0);
        fault("things2;0ahead1by22;", 17);
        for (char odd : "`{/:<>AZ@!-\u0080\u00f1".toCharArray()) {
            fault("things 2;" + odd, 9);
            fault(odd + "things 2;", 0);
        }
        String eight = "things 2;0 apart 1;0 apart 1;0 apart 1;0 apart 1;0 apart 1;0 apart 1;0 apart 1;0 apart 1;";
        fault(eight + "  0 apart 1;", eight.length() + 2);
        fault(eight + "of 0 1;0 apart 1;", eight.length() + 7);
        fault(eight + "1", eight.length());
        fault(eight + "99", eight.length());
        fault(eight + " of", eight.length() + 3);
        fault(" ".repeat(200), 200);
    }

    private static void p10Fits() {
        long[] free = {1, 1, 13, 409, 23917, 2244361, 308682013};
        for (int n = 0; n <= 6; n++) {
            due("fits of " + n, Checks.things(n).fits(), free[n]);
        }
        NoWhen x = Checks.things(6);
        for (int t = 0; t < 6; t++) {
            x.of(t, 2);
        }
        // six things in a row, in 720 rows, each meeting the next or ahead of it
        due("fits of one person's six", x.fits(), 720 * 32);
        x.of(0, 1);
        x.of(0, 2);
        due("fits again", x.fits(), 720 * 32);
        x.say(0, 6, 1, 0);
        due("apart already", x.fits(), 720 * 32);
        x.say(0, 7, 1, 0);
        due("cross can not be", x.fits(), 0);
    }

    private static void p11First() {
        NoWhen x = new NoWhen();
        due("first without things", x.first(0), -2);
        x.thing();
        x.thing();
        int[] free = {0, 1, 2, 3};
        for (int e = 0; e < 4; e++) {
            due("first(" + e + ")", x.first(e), free[e]);
        }
        int[] bad = {-1, 4, 5, LOW, HIGH};
        for (int b : bad) {
            due("first(" + b + ")", x.first(b), -2);
        }
        // the later thing's beginning alone is a lesser MOMENT than both beginnings
        x.say(0, 2, 1, 0);
        int[] inside = {1, 2, 0, 3};
        for (int e = 0; e < 4; e++) {
            due("first(" + e + ") of while", x.first(e), inside[e]);
        }
        x.say(0, 5, 1, 0);
        x.say(0, 4, 1, 0);
        int[] equal = {0, 1, 0, 1};
        for (int e = 0; e < 4; e++) {
            due("first(" + e + ") of equal ones", x.first(e), equal[e]);
        }
        x.say(0, 0, 1, 0);
        due("first(0) without a fit", x.first(0), -3);
        due("first(4) without a fit", x.first(4), -2);
        refused("first", x, 1 + bad.length + 1, 1, 0);
    }

    private static void p12Moments() {
        due("moments of nothing", new NoWhen().moments(), 0);
        due("moments of one", Checks.things(1).moments(), 2);
        due("moments of six", Checks.things(6).moments(), 12);
        NoWhen x = Checks.things(2);
        x.say(0, 1, 1, 0);
        due("moments of meets", x.moments(), 3);
        x.say(0, 6, 1, 0);
        due("moments of meets and apart", x.moments(), 3);
        x.say(1, 1, 0, 0);
        due("moments without a fit", x.moments(), -3);
        refused("moments", x, 0, 1, 0);
    }

    private static void p13Last() {
        NoWhen x = Checks.things(3);
        x.say(0, 3, 1, 0);
        x.say(1, 3, 2, 0);
        int[] n = {1, 2, 3, 2, 1, 0};
        for (int m = 0; m < 6; m++) {
            due("last(" + m + ")", x.last(m), n[m]);
        }
        due("last(6)", x.last(6), -2);
        due("last(-1)", x.last(-1), -2);
        due("last(LOW)", x.last(LOW), -2);
        due("last(HIGH)", x.last(HIGH), -2);
        x.say(2, 0, 0, 0);
        due("last(0) without a fit", x.last(0), -3);
        due("last(99) without a fit", x.last(99), -3);
        refused("last", x, 4, 2, 0);
        due("last(0) without things", new NoWhen().last(0), -2);
    }

    private static void p14Clash() {
        NoWhen x = Checks.things(3);
        due("clash of nothing", x.clash(), -1);
        x.say(0, 0, 1, 0);
        x.say(1, 0, 2, 0);
        due("clash of none", x.clash(), -1);
        x.say(2, 0, 0, 0);
        due("clash of three", x.clash(), 7);
        x.say(2, 2, 1, 0);
        due("clash of two: 1 and 3", x.clash(), 2 | 8);
        x.say(1, 1, 0, 0);
        due("of like ones the least: 0 and 4, not 1 and 3", x.clash(), 2 | 8);
        NoWhen y = Checks.things(3);
        y.say(1, 1, 0, 0);
        y.say(0, 0, 1, 0);
        y.say(1, 3, 0, 0);
        due("the least of three twos", y.clash(), 3);
        y.of(0, 1);
        y.of(1, 1);
        due("of alone against one saying", y.clash(), 4);
        NoWhen z = Checks.things(3);
        z.of(0, 0);
        z.of(1, 0);
        z.say(0, 3, 2, 0);
        z.say(1, 5, 0, 0);
        z.say(1, 4, 0, 0);
        due("two that OF rules out alone", z.clash(), 2);
        refused("clash", z, 0, 0, 0);
    }

    private static void p15Drop() {
        NoWhen x = Checks.things(3);
        due("drop of nothing", x.drop(), 0);
        x.say(0, 0, 1, 0);
        due("drop of none", x.drop(), 0);
        x.say(1, 0, 2, 0);
        x.say(2, 0, 0, 0);
        due("the least one", x.drop(), 1);
        x.say(1, 0, 2, 0);
        due("0 and 2 only: the least", x.drop(), 1);
        x.say(0, 0, 1, 0);
        due("2 alone", x.drop(), 4);
        x.of(0, 1);
        x.of(1, 1);
        x.of(2, 1);
        due("2 alone, with of", x.drop(), 4);
        x.say(0, 3, 1, 0);
        due("2 and 5", x.drop(), 4 | 32);
        NoWhen y = Checks.things(2);
        y.of(0, 3);
        y.of(1, 3);
        for (int s = 0; s < 8; s++) {
            y.say(s % 2, 3, 1 - s % 2, 0);
        }
        due("all eight", y.drop(), 255);
        due("each alone", y.clash(), 1);
        refused("drop", y, 0, 0, 0);
        // eight sayings of six things: the last two clash, and each of them with all of a row
        NoWhen z = Checks.things(6);
        for (int t = 0; t < 5; t++) {
            z.say(t, 0, t + 1, t % 3);
        }
        z.say(0, 6, 5, 0);
        due("drop of a row", z.drop(), 0);
        z.say(5, 1, 0, 3);
        due("clash of a row and 6", z.clash(), 31 | 64);
        due("drop of a row and 6", z.drop(), 1);
        z.say(5, 0, 0, 3);
        due("clash of 6 and 7", z.clash(), 64 | 128);
        due("drop of 0 and 6", z.drop(), 1 | 64);
        due("without 6 and 7", z.word(3), 1);
        due("without 0 and 3", z.word(0), 0);
        due("without 6 and 7 alone", z.against(), 8);
    }

    private static void p16Between() {
        NoWhen x = Checks.things(2);
        due("between(0, 1)", x.between(0, 1), 1);
        due("between(1, 0)", x.between(1, 0), 4);
        due("between(0, 2)", x.between(0, 2), 7);
        due("between(3, 1)", x.between(3, 1), 7);
        x.of(0, 0);
        x.of(1, 0);
        due("between(0, 2) apart", x.between(0, 2), 5);
        due("between(1, 2) apart", x.between(1, 2), 7);
        due("between(2, 1) apart", x.between(2, 1), 7);
        x.of(0, -1);
        x.say(0, 2, 1, 0);
        due("between(0, 2) while", x.between(0, 2), 6);
        due("between(2, 0) while", x.between(2, 0), 3);
        due("between(1, 3) while", x.between(1, 3), 3);
        due("between(3, 1) while", x.between(3, 1), 6);
        int[][] bad = {{0, 0}, {3, 3}, {-1, 0}, {0, -1}, {4, 0}, {0, 4}, {LOW, 0}, {0, HIGH}};
        for (int[] b : bad) {
            due("between(" + b[0] + ", " + b[1] + ")", x.between(b[0], b[1]), -2);
        }
        x.say(0, 0, 1, 0);
        due("between(0, 1) without a fit", x.between(0, 1), -3);
        due("between(0, 0) without a fit", x.between(0, 0), -2);
        refused("between", x, bad.length + 1, 1, 0);
    }

    private static void p17Sure() {
        due("sure of nothing", new NoWhen().sure(), 0);
        due("sure of one", Checks.things(1).sure(), 1);
        due("sure of two", Checks.things(2).sure(), 2);
        due("sure of six", Checks.things(6).sure(), 6);
        NoWhen x = Checks.things(2);
        x.say(0, 1, 1, 0);
        due("sure of meets", x.sure(), 6);
        x.unsay();
        x.say(0, 4, 1, 0);
        due("sure of begins", x.sure(), 5);
        x.say(0, 0, 1, 0);
        due("sure without a fit", x.sure(), -3);
        refused("sure", x, 0, 1, 0);
    }

    private static void p18Together() {
        NoWhen x = Checks.things(2);
        due("together(0, 1)", x.together(0, 1), 9);
        due("together(1, 0)", x.together(1, 0), 9);
        x.say(0, 2, 1, 0);
        due("together while", x.together(0, 1), 4);
        x.of(0, 0);
        x.of(1, 0);
        due("together without a fit", x.together(0, 1), 0);
        x.unsay();
        due("together of one person's", x.together(0, 1), 0);
        int[][] bad = {{0, 0}, {1, 1}, {2, 0}, {0, 2}, {-1, 0}, {0, -1}, {LOW, HIGH}};
        for (int[] b : bad) {
            due("together(" + b[0] + ", " + b[1] + ")", x.together(b[0], b[1]), -2);
        }
        refused("together", x, bad.length, 0, 0);
        due("together of six", Checks.things(6).together(4, 2) > 0 ? 1 : 0, 1);
        due("together without things", new NoWhen().together(0, 1), -2);
    }

    private static void p19Ask() {
        NoWhen x = new NoWhen();
        due("ask(0) of nothing", x.ask(0), -1);
        due("ask(1) of nothing", x.ask(1), -1);
        due("ask(-1)", x.ask(-1), -2);
        due("ask(2)", x.ask(2), -2);
        due("ask(LOW)", x.ask(LOW), -2);
        x.thing();
        due("ask(0) of one", x.ask(0), -1);
        x.thing();
        due("ask(0) of two", x.ask(0), 2);
        due("ask(1) of two", x.ask(1), 5);
        x.say(0, 4, 1, 0);
        due("ask(0) of begins", x.ask(0), 103);
        due("ask(1) of begins", x.ask(1), 1);
        x.say(0, 0, 1, 0);
        due("ask(0) without a fit", x.ask(0), -3);
        due("ask(1) without a fit", x.ask(1), -3);
        due("ask(2) without a fit", x.ask(2), -2);
        refused("ask", x, 4, 2, 0);
        NoWhen y = Checks.things(6);
        due("ask(0) of six", y.ask(0), 2);
        due("ask(1) of six", y.ask(1), 142454225);
        // pairs above ten: 100 times the lesser, and the other one
        for (int t = 0; t < 4; t++) {
            y.say(t, 0, t + 1, 0);
        }
        y.say(3, 0, 5, 0);
        due("ask(0) of the last two", y.ask(0), 810);
    }

    private static void p20One() {
        NoWhen x = new NoWhen();
        due("one(-1) without things", x.one(-1), -10);
        x.thing();
        due("one(-1) of one", x.one(-1), -10);
        x.thing();
        due("one(-1), no one of story 1", x.one(-1), -10);
        x.story(0, 1);
        due("one(-1) of two", x.one(-1), 1);
        due("one(0) of two", x.one(0), 0);
        due("one(1) of two", x.one(1), -5);
        due("one(HIGH) of two", x.one(HIGH), -5);
        due("one(-2)", x.one(-2), -10);
        due("one(LOW)", x.one(LOW), -10);
        x.story(1, 1);
        due("one(0), no one of story 0", x.one(0), -10);
        refused("one", x, 6, 0, 0);
        NoWhen y = Checks.things(6);
        y.story(3, 1);
        y.story(0, 1);
        y.story(4, 1);
        due("one(-1) of six", y.one(-1), 6);
        int[] mates = {0, 3, 4, -5};
        for (int i = 0; i < 4; i++) {
            due("one(" + i + ") of six", y.one(i), mates[i]);
        }
        y.say(1, 0, 0, 0);
        due("1 is not 0", y.one(-1), 4);
        due("1 is 3", y.one(0), 3);
        due("2 is 0", y.one(1), 0);
        due("5 is 4", y.one(2), 4);
        y.say(2, 0, 5, 0);
        y.say(3, 0, 4, 0);
        y.say(4, 0, 0, 0);
        due("1 is 3 or 4", y.one(-1), 2);
        y.say(1, 0, 2, 0);
        due("all in a row", y.one(-1), 1);
        due("2 is 4", y.one(1), 4);
        y.say(5, 0, 3, 0);
        due("no way", y.one(-1), 0);
        due("no way", y.one(0), -5);
        due("no such one, no way", y.one(3), -5);
        due("below -1, no way", y.one(-2), -10);
        due("no fits needed else", y.count(0), 6);
        refused("one", y, 1, 0, 0);
        NoWhen z = Checks.things(2);
        z.story(1, 1);
        z.of(0, 2);
        z.of(1, 2);
        due("of one person they are two", z.one(-1), 0);
        z.of(1, 1);
        due("of two people they may be one", z.one(-1), 1);
        z.thing();
        due("three things", z.one(-1), -10);
    }

    private static void p21Word() {
        NoWhen x = Checks.things(3);
        due("word(0) of nothing", x.word(0), 1);
        x.say(0, 0, 1, 2);
        x.say(1, 0, 2, 3);
        x.say(2, 0, 0, 3);
        due("word(0)", x.word(0), 0);
        due("word(1)", x.word(1), 0);
        due("word(2)", x.word(2), 1);
        due("word(3)", x.word(3), 1);
        x.say(1, 1, 0, 2);
        due("word(3) now", x.word(3), 0);
        due("word(2) now", x.word(2), 1);
        int[] bad = {-1, 4, LOW, HIGH};
        for (int b : bad) {
            due("word(" + b + ")", x.word(b), -2);
        }
        refused("word", x, bad.length, 0, 0);
    }

    private static void p22Against() {
        NoWhen x = Checks.things(2);
        due("against of nothing", x.against(), 15);
        x.say(0, 0, 1, 1);
        due("against with a fit", x.against(), 15);
        x.say(1, 0, 0, 3);
        due("1 or 3", x.against(), 2 | 8);
        x.say(1, 3, 0, 0);
        due("none alone", x.against(), 0);
        x.unsay();
        x.say(1, 3, 0, 3);
        due("3 alone", x.against(), 8);
        x.of(0, 0);
        x.of(1, 0);
        due("3 alone, with of", x.against(), 8);
        x.say(0, 5, 1, 1);
        due("none alone, with of", x.against(), 0);
    }

    private static void p23Watch() {
        NoWhen x = Checks.things(2);
        due("watch(0, 0)", x.watch(0, 0), -1);
        due("watch(3, 99)", x.watch(3, 99), -1);
        due("count(2)", x.count(2), 2);
        due("watch(0, 7)", x.watch(0, 7), 0);
        due("watch(0, -1)", x.watch(0, -1), 7);
        due("watch(0, -1) again", x.watch(0, -1), -1);
        due("count(2)", x.count(2), 1);
        int[][] bad = {{4, 0}, {-1, 0}, {0, 100}, {0, -2}, {LOW, 0}, {HIGH, 0}, {0, LOW}, {0, HIGH}};
        for (int[] b : bad) {
            due("watch(" + b[0] + ", " + b[1] + ")", x.watch(b[0], b[1]), -10);
        }
        refused("watch", x, bad.length, 0, 0);
        due("watch(3, 5)", x.watch(3, 5), 99);
    }

    private static void minutes(String where, NoWhen x, int end, int soonest, int latest) {
        due(where + ": minute(" + end + ", 0)", x.minute(end, 0), soonest);
        due(where + ": minute(" + end + ", 1)", x.minute(end, 1), latest);
    }

    private static void p24Minute() {
        NoWhen x = Checks.things(2);
        minutes("free", x, 0, 0, 98);
        minutes("free", x, 3, 1, 99);
        x.watch(0, 98);
        minutes("late", x, 1, 99, 99);
        minutes("late", x, 2, 0, 98);
        minutes("late", x, 3, 1, 99);
        x.watch(1, 98);
        minutes("never", x, 1, -1, -1);
        minutes("never", x, 2, -1, -1);
        x.watch(1, 99);
        minutes("told both", x, 1, 99, 99);
        x.say(0, 0, 1, 0);
        minutes("no room", x, 0, -1, -1);
        x.watch(0, 10);
        x.watch(1, 20);
        minutes("room", x, 0, 10, 10);
        minutes("room", x, 2, 21, 98);
        minutes("room", x, 3, 22, 99);
        x.watch(3, 22);
        minutes("close", x, 2, 21, 21);
        x.watch(3, 21);
        minutes("too close", x, 2, -1, -1);
        x.unsay();
        minutes("free of the saying", x, 2, 0, 20);
        // a watch may tell which FITS there are: 0 and 2 begin in one MOMENT
        x.watch(2, 10);
        x.watch(3, -1);
        minutes("one moment", x, 3, 11, 99);
        x.say(0, 2, 1, 0);
        minutes("one moment and while", x, 3, 20, 99);
        x.watch(2, 11);
        minutes("it begins too soon", x, 3, -1, -1);
        x.watch(2, 9);
        minutes("it begins sooner", x, 3, 20, 99);
        x.watch(3, 100);
        int[][] bad = {{4, 0}, {-1, 0}, {0, 2}, {0, -1}, {LOW, 0}, {HIGH, 1}, {0, LOW}, {0, HIGH}};
        for (int[] b : bad) {
            due("minute(" + b[0] + ", " + b[1] + ")", x.minute(b[0], b[1]), -2);
        }
        refused("minute", x, bad.length + 1, 0, 0);
        x.say(0, 0, 1, 0);
        minutes("no fit", x, 0, -1, -1);
        refused("none is no refusal", x, bad.length + 1, 0, 0);
        NoWhen y = Checks.things(6);
        for (int t = 0; t < 5; t++) {
            y.say(t, 0, t + 1, 0);
        }
        for (int e = 0; e < 12; e++) {
            minutes("a row", y, e, e, 88 + e);
        }
        y.watch(11, 11);
        for (int e = 0; e < 12; e++) {
            minutes("a row with no room", y, e, e, e);
        }
        y.watch(11, 10);
        minutes("less than none", y, 11, -1, -1);
    }

    private static void p25Image() {
        NoWhen x = Checks.things(1);
        due("image(0)", x.image(0), 1);
        x.thing();
        due("image(1)", x.image(1), 1);
        int[] bad = {-1, 2, LOW, HIGH};
        for (int b : bad) {
            due("image(" + b + ")", x.image(b), -2);
        }
        refused("image", x, bad.length, 0, 0);
        due("from(0)", x.from(0), 1);
        due("things", x.count(0), 1);
        due("from(1)", x.from(1), 1);
        due("things", x.count(0), 2);
        x.thing();
        due("image(0) over the old one", x.image(0), 1);
        x.from(1);
        x.from(0);
        due("things", x.count(0), 3);
    }

    private static void p26From() {
        NoWhen x = Checks.things(2);
        due("from(0) of none", x.from(0), -3);
        x.of(0, 1);
        x.story(1, 1);
        x.say(0, 2, 1, 3);
        x.watch(2, 50);
        Checks.typed(x, "abc");
        long before = x.digest();
        x.image(1);
        due("from(0) of none still", x.from(0), -3);
        x.of(0, 2);
        x.story(1, 0);
        x.unsay();
        x.say(1, 0, 0, 0);
        x.say(1, 0, 0, 0);
        x.watch(2, -1);
        x.watch(0, 9);
        x.thing();
        due("fits", x.fits() > 4 ? 1 : 0, 1);
        due("from(1)", x.from(1), 1);
        due("digest", x.digest(), before);
        due("fits of the image", x.fits(), 4);
        due("minute of the image", x.minute(2, 0), 50);
        due("one of the image", x.one(-1), 1);
        due("clash of the image", x.clash(), -1);
        Checks.typed(x, "de");
        x.from(1);
        due("the text stays", x.count(3), 5);
        x.unsay();
        due("an image is not what goes on", x.from(1), 1);
        due("sayings", x.count(1), 1);
        int[] bad = {-1, 2, LOW, HIGH};
        for (int b : bad) {
            due("from(" + b + ")", x.from(b), -2);
        }
        refused("status stays", x, bad.length, 2, 0);
        x.thing();
        due("of of a thing behind an image", x.of(2, 0), -1);
    }

    private static void p27Status() {
        NoWhen x = Checks.things(6);
        refused("none", x, 0, 0, 0);
        due("status(3)", x.status(3), -1);
        due("status(-1)", x.status(-1), -1);
        due("status(LOW)", x.status(LOW), -1);
        due("status(HIGH)", x.status(HIGH), -1);
        refused("four", x, 4, 0, 0);
        x.thing();
        x.unsay();
        x.unsay();
        refused("one of each", x, 4, 2, 1);
        x.of(9, 9);
        x.watch(99, 0);
        x.one(-9);
        x.one(-1);
        refused("-10 counts as BAD", x, 8, 2, 1);
        x.read();
        refused("a fault does not count", x, 8, 2, 1);
        x.clash();
        x.minute(0, 0);
        x.together(0, 1);
        refused("answers do not count", x, 8, 2, 1);
    }

    private static void p28Count() {
        NoWhen x = Checks.things(3);
        x.say(0, 0, 1, 0);
        x.say(0, 0, 1, 0);
        x.watch(0, 0);
        x.type(1L, 4);
        counts("count", x, 3, 2, 1, 4);
        int[] bad = {-1, 4, LOW, HIGH};
        for (int b : bad) {
            due("count(" + b + ")", x.count(b), -2);
        }
        refused("count", x, bad.length, 0, 0);
    }

    private static void p29Digest() {
        NoWhen x = Checks.things(2);
        due("digest of two", x.digest(), sum(2, 0, 0, 0, -1, 0, -1, 0, -1, -1, -1, -1));
        x.of(1, 3);
        x.story(0, 1);
        x.say(1, 7, 0, 2);
        x.watch(3, 0);
        x.watch(0, 99);
        x.type(0L, 3);
        due("digest", x.digest(), sum(2, 1, 2, 3, -1, 1, 3, 0, 7, 1, 0, 2, 99, -1, -1, 0));
        x.fits();
        x.clash();
        due("digest again", x.digest(), sum(2, 1, 2, 3, -1, 1, 3, 0, 7, 1, 0, 2, 99, -1, -1, 0));
        refused("digest", x, 0, 0, 0);
    }

    /** Whatever is changed, nothing told before is told again. */
    private static void manyCalls() {
        NoWhen x = Checks.things(2);
        x.story(1, 1);
        // 16 calls each: an object is used for 512 at most
        for (int k = 0; k < 31; k++) {
            due("fits", x.fits(), 13);
            due("one", x.one(-1), 1);
            due("minute", x.minute(0, 1), 98);
            due("drop", x.drop(), 0);
            x.say(0, 0, 1, 0);
            due("fits", x.fits(), 1);
            due("one", x.one(-1), 0);
            due("minute", x.minute(0, 1), 96);
            x.say(1, 1, 0, 0);
            due("drop", x.drop(), 1);
            x.unsay();
            due("drop", x.drop(), 0);
            x.watch(3, 3 + k);
            due("minute", x.minute(0, 1), k);
            x.watch(3, -1);
            x.unsay();
        }
    }
}
