import java.util.Random;

/** Long runs of calls, drawn by fixed seeds, each answer held against the document said again plainly (Slow). */
public final class SlowTests {
    private static final String[] WORDS = {"ahead", "meets", "while", "inside", "begins", "ends", "apart", "cross",
        "things", "of", "story", "by", "a", "aheads", "thing"};

    private final Random random;
    private final int mostThings;
    private final NoWhen x = new NoWhen();
    private final Slow slow = new Slow();
    private final StringBuilder calls = new StringBuilder();
    private int made;
    /** What truly was, so that many of the sayings can be kept together. */
    private final int[] truth = new int[12];

    private SlowTests(long seed, int mostThings) {
        random = new Random(seed);
        this.mostThings = mostThings;
        for (int t = 0; t < 6; t++) {
            truth[2 * t] = upTo(7);
            truth[2 * t + 1] = truth[2 * t] + 1 + upTo(4);
        }
    }

    public static void main(String[] args) {
        for (int seed = 1; seed <= 900; seed++) {
            new SlowTests(seed, 1 + seed % 3).run(seed % 9 == 0 ? 500 : 120);
        }
        for (int seed = 1; seed <= 60; seed++) {
            new SlowTests(10000 + seed, 4).run(100);
        }
        for (int seed = 1; seed <= 3; seed++) {
            new SlowTests(20000 + seed, 5).run(40);
        }
        for (int seed = 1; seed <= 6000; seed++) {
            new SlowTests(30000 + seed, 4).readOnly();
        }
        for (int seed = 1; seed <= 40; seed++) {
            new SlowTests(50000 + seed, 6).sixThings();
        }
        for (int seed = 1; seed <= 60; seed++) {
            new SlowTests(60000 + seed, 6).sixTold();
        }
        Checks.end("SlowTests");
    }

    private void same(String call, long got, long want) {
        made++;
        calls.append(call).append("; ");
        if (got != want) {
            Checks.due(calls.toString(), got, want);
        } else {
            Checks.due(call, got, want);
        }
    }

    private int upTo(int n) {
        return random.nextInt(n);
    }

    /** A number of 0 .. most, now and then one that is not. */
    private int about(int most) {
        if (upTo(14) == 0) {
            int[] odd = {-1, -2, most + 1, most + 2, Integer.MAX_VALUE, Integer.MIN_VALUE, 100, -10};
            return odd[upTo(odd.length)];
        }
        return most < 0 ? 0 : upTo(most + 1);
    }

    private int aThing() {
        return about(slow.count(0) - 1);
    }

    private int anEnd() {
        return about(2 * slow.count(0) - 1);
    }

    private int aPerson() {
        return about(3);
    }

    private int aMinute() {
        int[] edges = {-1, -1, -1, 0, 1, 2, 98, 99};
        return upTo(3) == 0 ? edges[upTo(edges.length)] : about(upTo(2) == 0 ? 12 : 99);
    }

    private void run(int n) {
        // an object is used for 512 calls at most, and a step takes up to 30
        for (int k = 0; k < n && made < 470 && !Checks.anyWrong(); k++) {
            switch (upTo(4)) {
                case 0: change(); break;
                case 1: tell(); break;
                case 2: askOf(); break;
                default: wonder(); break;
            }
        }
        same("status(0)", x.status(0), slow.status(0));
        same("status(1)", x.status(1), slow.status(1));
        same("status(2)", x.status(2), slow.status(2));
        same("digest()", x.digest(), slow.digest());
    }

    private void change() {
        int a = aThing(), b = aThing(), k = about(7), p = aPerson();
        switch (upTo(7)) {
            case 0:
            case 1:
                if (slow.count(0) < mostThings || slow.count(0) == 6) {
                    same("thing()", x.thing(), slow.thing());
                }
                break;
            case 2:
                p = upTo(3) == 0 ? -1 : p;
                same("of(" + a + ", " + p + ")", x.of(a, p), slow.of(a, p));
                break;
            case 3:
                p = about(1);
                same("story(" + a + ", " + p + ")", x.story(a, p), slow.story(a, p));
                break;
            case 4:
            case 5:
                for (int tries = 0; tries < 40 && !isTrue(a, k, b); tries++) {
                    a = aThing();
                    b = aThing();
                    k = about(7);
                }
                same("say(" + a + ", " + k + ", " + b + ", " + p + ")", x.say(a, k, b, p), slow.say(a, k, b, p));
                break;
            default:
                if (upTo(3) == 0) {
                    same("unsay()", x.unsay(), slow.unsay());
                }
                break;
        }
    }

    /** Wrong numbers and one saying of six need not be true. */
    private boolean isTrue(int a, int kind, int b) {
        boolean areThings = a >= 0 && a < 6 && b >= 0 && b < 6 && a != b && kind >= 0 && kind < 8;
        return areThings ? Slow.keeps(truth, kind, a, b) || upTo(60) == 0 : upTo(10) == 0;
    }

    private void tell() {
        int e = anEnd(), m = aMinute(), i = about(1);
        switch (upTo(8)) {
            case 0:
            case 1:
            case 2:
                same("watch(" + e + ", " + m + ")", x.watch(e, m), slow.watch(e, m));
                break;
            case 3:
                same("image(" + i + ")", x.image(i), slow.image(i));
                break;
            case 4:
                same("from(" + i + ")", x.from(i), slow.from(i));
                break;
            case 5:
                typeText();
                if (upTo(3) == 0) {
                    same("read()", x.read(), slow.read());
                    fewerThings();
                }
                break;
            case 6:
                long v = random.nextLong();
                int n = about(8);
                same("type(" + v + ", " + n + ")", x.type(v, n), slow.type(v, n));
                break;
            default:
                same("clear()", x.clear(), slow.clear());
                break;
        }
    }

    private void askOf() {
        int e = anEnd(), f = anEnd(), i = about(1);
        switch (upTo(8)) {
            case 0: same("fits()", x.fits(), slow.fits()); break;
            case 1: same("first(" + e + ")", x.first(e), slow.first(e)); break;
            case 2: same("moments()", x.moments(), slow.moments()); break;
            case 3: same("last(" + f + ")", x.last(f), slow.last(f)); break;
            case 4: same("between(" + e + ", " + f + ")", x.between(e, f), slow.between(e, f)); break;
            case 5: same("sure()", x.sure(), slow.sure()); break;
            case 6: same("ask(" + i + ")", x.ask(i), slow.ask(i)); break;
            default: same("minute(" + e + ", " + i + ")", x.minute(e, i), slow.minute(e, i)); break;
        }
    }

    private void wonder() {
        int a = aThing(), b = aThing(), p = aPerson(), i = about(2) - 1;
        switch (upTo(9)) {
            case 0: same("clash()", x.clash(), slow.clash()); break;
            case 1: same("drop()", x.drop(), slow.drop()); break;
            case 2: same("together(" + a + ", " + b + ")", x.together(a, b), slow.together(a, b)); break;
            case 3: same("one(" + i + ")", x.one(i), slow.one(i)); break;
            case 4: same("word(" + p + ")", x.word(p), slow.word(p)); break;
            case 5: same("against()", x.against(), slow.against()); break;
            case 6: same("status(" + p + ")", x.status(p), slow.status(p)); break;
            case 7: same("count(" + p + ")", x.count(p), slow.count(p)); break;
            default: same("digest()", x.digest(), slow.digest()); break;
        }
    }

    // ---- THE TEXT

    private void typeText() {
        same("clear()", x.clear(), slow.clear());
        typeAll(upTo(3) == 0 ? spoilt(aText()) : aText());
    }

    private void typeAll(String text) {
        for (int from = 0; from < text.length(); from += 8) {
            int to = Math.min(text.length(), from + 8);
            long v = 0;
            for (int k = from; k < to; k++) {
                v = v << 8 | text.charAt(k);
            }
            same("type(" + v + ", " + (to - from) + ")", x.type(v, to - from), slow.type(v, to - from));
        }
    }

    /** A spoilt text may have told of more THINGS than all ORDERS can be made of. */
    private void fewerThings() {
        if (slow.count(0) > mostThings) {
            same("clear()", x.clear(), slow.clear());
            typeAll("things 1;");
            same("read()", x.read(), slow.read());
        }
    }

    private void readOnly() {
        if (Checks.anyWrong()) {
            return;
        }
        typeText();
        same("read()", x.read(), slow.read());
        same("digest()", x.digest(), slow.digest());
    }

    private String blanks(int least) {
        return " ".repeat(Math.max(least, upTo(4) == 0 ? upTo(3) : 0));
    }

    private String aText() {
        int n = 1 + upTo(mostThings);
        StringBuilder s = new StringBuilder(blanks(0) + "things" + blanks(0) + n + blanks(0) + ";");
        int items = upTo(4) == 0 ? upTo(14) : upTo(6);
        for (int k = 0; k < items; k++) {
            s.append(blanks(0));
            int t = upTo(n), u = upTo(n);
            switch (upTo(7)) {
                case 0: s.append("of" + blanks(0) + t + blanks(1) + upTo(4)); break;
                case 1: s.append("story" + blanks(0) + t); break;
                default:
                    s.append(t + blanks(0) + WORDS[upTo(8)] + blanks(0) + u);
                    if (upTo(2) == 0) {
                        s.append(blanks(0) + "by" + blanks(0) + upTo(4));
                    }
                    break;
            }
            s.append(blanks(0) + ";");
        }
        return s.append(blanks(0)).toString();
    }

    private String spoilt(String text) {
        if (text.isEmpty()) {
            return text;
        }
        int k = upTo(text.length());
        String odd = " ;0123456789abyzAZ_/:`{\n\0\u00ff";
        switch (upTo(4)) {
            case 0: return text.substring(0, k);
            case 1: return text.substring(0, k) + text.substring(k + 1);
            case 2: return text.substring(0, k) + odd.charAt(upTo(odd.length())) + text.substring(k + 1);
            default: return text.substring(0, k) + " " + WORDS[upTo(WORDS.length)] + " " + text.substring(k);
        }
    }

    // ---- six THINGS: too many ORDERS to make, so what is told is held against itself

    private void sixThings() {
        for (int t = 0; t < 6; t++) {
            x.thing();
            x.of(t, upTo(3) == 0 ? upTo(4) : -1);
        }
        int sayings = upTo(7);
        for (int s = 0; s < sayings; s++) {
            x.say(upTo(6), upTo(8), upTo(6), upTo(4));
        }
        long fits = x.fits();
        for (int a = 0; a < 6 && fits > 0; a++) {
            int b = (a + 1 + upTo(5)) % 6;
            long ahead = with(a, 0, b), meets = with(a, 1, b), apart = with(a, 6, b);
            long back = with(b, 0, a), backMeets = with(b, 1, a);
            Checks.due("apart of " + a + " " + b, apart, ahead + meets + back + backMeets);
            Checks.due("together of " + a + " " + b, x.together(a, b), fits - apart);
            long overlap = with(a, 7, b) + with(b, 7, a);
            long inside = with(a, 3, b) + with(b, 3, a);
            long begins = with(a, 4, b) + with(b, 4, a);
            long ends = with(a, 5, b) + with(b, 5, a);
            x.say(a, 4, b, 0);
            long equal = with(a, 5, b);
            x.unsay();
            Checks.due("all of " + a + " " + b, apart + overlap + inside + begins + ends - 3 * equal, fits);
            int bits = x.between(2 * a + 1, 2 * b);
            Checks.due("between of " + a + " " + b, bits,
                (ahead > 0 ? 1 : 0) + (meets > 0 ? 2 : 0) + (fits > ahead + meets ? 4 : 0));
        }
        clashAndDrop();
    }

    // ---- six THINGS of which so much is said that few ORDERS are left

    private void sixTold() {
        boolean[] his = new boolean[6];
        for (int t = 0; t < 6; t++) {
            same("thing()", x.thing(), slow.thing());
            his[t] = upTo(3) > 0 && isApartFrom(his, t);
            int whose = his[t] ? 0 : -1;
            same("of(" + t + ", " + whose + ")", x.of(t, whose), slow.of(t, whose));
            int v = upTo(6) == 0 ? upTo(2) : t % 2;
            same("story(" + t + ", " + v + ")", x.story(t, v), slow.story(t, v));
        }
        for (int s = 0; s < 8; s++) {
            int a = upTo(6), b = upTo(6), k = upTo(8);
            for (int tries = 0; tries < 60 && (a == b || !Slow.keeps(truth, k, a, b) || k == 6 && tries < 40); tries++) {
                a = upTo(6);
                b = upTo(6);
                k = upTo(8);
            }
            int p = aPerson();
            same("say(" + a + ", " + k + ", " + b + ", " + p + ")", x.say(a, k, b, p), slow.say(a, k, b, p));
        }
        int watched = upTo(6);
        for (int k = 0; k < watched; k++) {
            int e = upTo(12), m = upTo(3) == 0 ? aMinute() : 9 * truth[e] + upTo(3);
            same("watch(" + e + ", " + m + ")", x.watch(e, m), slow.watch(e, m));
        }
        if (x.fits() <= 30000) {
            for (int k = 0; k < 40; k++) {
                askOf();
                wonder();
            }
        }
        for (int k = 0; k < 10; k++) {
            same("clash()", x.clash(), slow.clash());
            same("drop()", x.drop(), slow.drop());
            same("against()", x.against(), slow.against());
            for (int p = 0; p < 4; p++) {
                same("word(" + p + ")", x.word(p), slow.word(p));
            }
            int a = upTo(6), b = (a + 1 + upTo(5)) % 6, kind = upTo(8), p = aPerson();
            same("unsay()", x.unsay(), slow.unsay());
            same("say(" + a + ", " + kind + ", " + b + ", " + p + ")", x.say(a, kind, b, p), slow.say(a, kind, b, p));
        }
    }

    /** Whether one person can have been at this THING and at all that he is said to have been at. */
    private boolean isApartFrom(boolean[] his, int thing) {
        for (int t = 0; t < thing; t++) {
            if (his[t] && !Slow.keeps(truth, 6, t, thing)) {
                return false;
            }
        }
        return true;
    }

    private long with(int a, int kind, int b) {
        x.say(a, kind, b, 0);
        long fits = x.fits();
        x.unsay();
        return fits;
    }

    private void clashAndDrop() {
        int clash = x.clash(), drop = x.drop();
        long fits = x.fits();
        Checks.due("clash told where there is a FIT", clash == -1 ? 1 : 0, fits > 0 ? 1 : 0);
        Checks.due("drop told where there is a FIT", drop == 0 ? 1 : 0, fits > 0 ? 1 : 0);
    }
}
