/**
 * Each promise's refusals: the numbers just within and just without, which of two refusals comes first,
 * and that a refused call changes nothing but STATUS.
 */
public final class RefusalTests {
    private static final int LOW = Integer.MIN_VALUE, HIGH = Integer.MAX_VALUE;
    private static final int BAD = 0, NO = 1, FULL = 2;

    private RefusalTests() {
    }

    public static void main(String[] args) {
        samples();
        p2Thing();
        p3Of();
        p4Story();
        p5Say();
        p6Unsay();
        p7Type();
        p7TypeFull();
        p8Clear();
        p9Read();
        p10Fits();
        p11First();
        p12Moments();
        p13Last();
        p14Clash();
        p15Drop();
        p16Between();
        p17Sure();
        p18Together();
        p19Ask();
        p20One();
        p21Word();
        p22Against();
        p23Watch();
        p24Minute();
        p25Image();
        p26From();
        p27Status();
        p28Count();
        p29Digest();
        Checks.end("RefusalTests");
    }

    // ---- how a call is held against what is due

    /** Refused: the answer, one more in STATUS, and all else as in an object on which the call was never made. */
    private static void refused(int reason, long answer, Sample sample, Call... calls) {
        for (Call call : calls) {
            leavesAll(reason, answer, sample, call, false);
            leavesAll(reason, answer, sample, call, true);
        }
    }

    private static void leavesAll(int reason, long answer, Sample sample, Call call, boolean isAskedBefore) {
        String name = sample.name() + (isAskedBefore ? ", asked before: " : ": ") + call.name();
        NoWhen x = sample.make(), never = sample.make();
        if (isAskedBefore) {
            Look.at(x);
            Look.at(never);
        }
        Checks.due(name, call.on(x), answer);
        for (int what = 0; what < 3; what++) {
            int more = what == reason ? 1 : 0;
            Checks.due(name + ": status(" + what + ")", x.status(what), never.status(what) + more);
        }
        Checks.same(name + ": all else", Look.through(x), Look.through(never));
    }

    private static void bad(Sample sample, Call... calls) {
        refused(BAD, -2, sample, calls);
    }

    private static void bad10(Sample sample, Call... calls) {
        refused(BAD, -10, sample, calls);
    }

    private static void no(Sample sample, Call... calls) {
        refused(NO, -3, sample, calls);
    }

    private static void full(Sample sample, Call... calls) {
        refused(FULL, -4, sample, calls);
    }

    /** Not refused: the answer, and STATUS as it was. */
    private static void taken(Sample sample, Call call, long answer) {
        NoWhen x = sample.make();
        String before = Look.status(x), name = sample.name() + ": " + call.name();
        Checks.due(name, call.on(x), answer);
        Checks.same(name + ": status", Look.status(x), before);
    }

    /** Not refused, and it changes nothing at all. */
    private static void asked(Sample sample, Call call, long answer) {
        taken(sample, call, answer);
        NoWhen x = sample.make(), never = sample.make();
        call.on(x);
        call.on(x);
        Checks.same(sample.name() + ": " + call.name() + ": all else", Look.through(x), Look.through(never));
    }

    /** The samples are what their names say. */
    private static void samples() {
        int[][] counts = {{0, 0, 0, 0}, {3, 2, 2, 32}, {3, 3, 2, 32}, {6, 8, 12, 200}, {6, 8, 12, 200}};
        Sample[] all = {Sample.EMPTY, Sample.SOME, Sample.NO_FIT, Sample.FULL, Sample.FULL_NO_FIT};
        for (int k = 0; k < all.length; k++) {
            NoWhen x = all[k].make();
            for (int what = 0; what < 4; what++) {
                Checks.due(all[k].name() + ": count(" + what + ")", x.count(what), counts[k][what]);
            }
            boolean isNoFit = all[k] == Sample.NO_FIT || all[k] == Sample.FULL_NO_FIT;
            Checks.due(all[k].name() + ": there is no fit", x.fits() == 0 ? 1 : 0, isNoFit ? 1 : 0);
            Checks.same(all[k].name() + ": status", Look.status(x), k == 0 ? "0 BAD, 0 NO, 0 FULL" : Sample.STATUS);
            x.clear();
            Checks.typed(x, Sample.FULL_TEXT);
            Checks.due(all[k].name() + ": the full text", x.read(), 8);
        }
    }

    // ---- histories

    private static void p2Thing() {
        taken(Sample.EMPTY, Call.thing(), 0);
        taken(Sample.SOME, Call.thing(), 3);
        taken(Sample.NO_FIT, Call.thing(), 3);
        taken(new Sample("five things", () -> Checks.things(5)), Call.thing(), 5);
        full(new Sample("six things", () -> Checks.things(6)), Call.thing());
        full(Sample.FULL, Call.thing());
        full(Sample.FULL_NO_FIT, Call.thing());
    }

    private static void p3Of() {
        bad10(Sample.EMPTY, Call.of(0, 0), Call.of(0, -1), Call.of(-1, 0), Call.of(-1, -1));
        bad10(Sample.SOME, Call.of(3, 0), Call.of(-1, 0), Call.of(0, 4), Call.of(0, -2), Call.of(3, -1), Call.of(-1, -1),
            Call.of(3, 4), Call.of(-1, -2), Call.of(LOW, 0), Call.of(HIGH, 0), Call.of(0, LOW), Call.of(0, HIGH));
        bad10(Sample.NO_FIT, Call.of(3, 0), Call.of(0, 4));
        bad10(Sample.FULL, Call.of(6, 0), Call.of(5, 4), Call.of(5, -2));
        for (int person = -1; person <= 3; person++) {
            taken(Sample.SOME, Call.of(0, person), 1);
            taken(Sample.SOME, Call.of(1, person), -1);
            taken(Sample.SOME, Call.of(2, person), 1);
            taken(Sample.FULL, Call.of(5, person), 3);
        }
    }

    private static void p4Story() {
        bad(Sample.EMPTY, Call.story(0, 0), Call.story(0, 1), Call.story(-1, 0));
        bad(Sample.SOME, Call.story(3, 0), Call.story(-1, 0), Call.story(0, 2), Call.story(0, -1), Call.story(3, 2),
            Call.story(LOW, 1), Call.story(HIGH, 1), Call.story(2, LOW), Call.story(2, HIGH));
        bad(Sample.FULL, Call.story(6, 0), Call.story(5, 2), Call.story(5, -1));
        for (int v = 0; v <= 1; v++) {
            taken(Sample.SOME, Call.story(0, v), 0);
            taken(Sample.SOME, Call.story(2, v), 1);
            taken(Sample.FULL, Call.story(5, v), 1);
        }
    }

    private static void p5Say() {
        bad(Sample.EMPTY, Call.say(0, 0, 1, 0), Call.say(0, 0, 0, 0));
        bad(new Sample("one thing", () -> Checks.things(1)), Call.say(0, 0, 0, 0), Call.say(0, 0, 1, 0), Call.say(1, 0, 0, 0));
        Call[] wrong = {Call.say(-1, 0, 0, 0), Call.say(0, 0, -1, 0), Call.say(0, -1, 1, 0), Call.say(0, 8, 1, 0),
            Call.say(0, 0, 1, -1), Call.say(0, 0, 1, 4), Call.say(0, 0, 0, 0), Call.say(1, 6, 1, 0), Call.say(2, 2, 2, 0),
            Call.say(-1, -1, -1, -1), Call.say(LOW, 0, 1, 0), Call.say(0, LOW, 1, 0), Call.say(0, 0, LOW, 0),
            Call.say(0, 0, 1, LOW), Call.say(HIGH, 0, 1, 0), Call.say(0, HIGH, 1, 0), Call.say(0, 0, HIGH, 0),
            Call.say(0, 0, 1, HIGH)};
        bad(Sample.SOME, wrong);
        bad(Sample.SOME, Call.say(3, 0, 0, 0), Call.say(0, 0, 3, 0));
        // BAD ahead of FULL
        bad(Sample.FULL, wrong);
        bad(Sample.FULL_NO_FIT, wrong);
        bad(Sample.FULL, Call.say(6, 0, 0, 0), Call.say(0, 0, 6, 0), Call.say(5, 0, 5, 0));
        full(Sample.FULL, Call.say(0, 0, 1, 0), Call.say(5, 7, 0, 3));
        full(Sample.FULL_NO_FIT, Call.say(0, 0, 1, 0));
        for (int kind = 0; kind <= 7; kind++) {
            taken(Sample.SOME, Call.say(0, kind, 2, 0), 2);
            taken(Sample.NO_FIT, Call.say(2, kind, 0, 3), 3);
        }
        for (int by = 0; by <= 3; by++) {
            taken(Sample.SOME, Call.say(2, 0, 0, by), 2);
        }
        Sample seven = new Sample("full but for one saying", () -> {
            NoWhen x = Sample.FULL.make();
            x.unsay();
            return x;
        });
        taken(seven, Call.say(5, 7, 4, 3), 7);
        taken(seven, Call.say(0, 0, 5, 0), 7);
    }

    private static void p6Unsay() {
        no(Sample.EMPTY, Call.unsay());
        no(new Sample("six things", () -> Checks.things(6)), Call.unsay());
        no(new Sample("all taken back", () -> {
            NoWhen x = Sample.SOME.make();
            x.unsay();
            x.unsay();
            return x;
        }), Call.unsay());
        taken(Sample.SOME, Call.unsay(), 1);
        taken(Sample.NO_FIT, Call.unsay(), 2);
        taken(Sample.FULL, Call.unsay(), 7);
    }

    private static void p7Type() {
        Call[] wrong = {Call.type(59, 0), Call.type(59, 9), Call.type(59, -1), Call.type(59, LOW), Call.type(59, HIGH)};
        bad(Sample.EMPTY, wrong);
        bad(Sample.SOME, wrong);
        // BAD ahead of FULL
        bad(Sample.FULL, wrong);
        for (int n = 1; n <= 8; n++) {
            taken(Sample.EMPTY, Call.type(-1, n), n);
            taken(Sample.EMPTY, Call.type(Long.MIN_VALUE, n), n);
            taken(Sample.SOME, Call.type(0, n), 32 + n);
            full(Sample.FULL, Call.type(0, n));
        }
    }

    private static void p7TypeFull() {
        for (int n = 1; n <= 8; n++) {
            int bytes = 200 - n;
            Sample room = new Sample("room for " + n, () -> {
                NoWhen x = Checks.things(1);
                Checks.typed(x, "things 2;" + " ".repeat(bytes - 9));
                return x;
            });
            taken(room, Call.type(0x2020_2020_2020_2020L, n), 200);
            for (int more = n + 1; more <= 8; more++) {
                full(room, Call.type(0x3b3b_3b3b_3b3b_3b3bL, more));
            }
            bad(room, Call.type(0, 0), Call.type(0, 9));
        }
    }

    private static void p8Clear() {
        taken(Sample.EMPTY, Call.clear(), 0);
        taken(Sample.SOME, Call.clear(), 32);
        taken(Sample.FULL, Call.clear(), 200);
    }

    /** A FAULT is told as an answer of its own: all stays, STATUS too. */
    private static void p9Read() {
        asked(Sample.EMPTY, Call.read(), -10);
        for (String text : new String[] {"things 2;0 ahead 0;", "things 6", "of 0 1;"}) {
            for (Sample sample : new Sample[] {Sample.EMPTY, Sample.SOME, Sample.NO_FIT, Sample.FULL}) {
                Sample faulty = new Sample(sample.name() + " with " + text, () -> {
                    NoWhen x = sample.make();
                    x.clear();
                    Checks.typed(x, text);
                    return x;
                });
                asked(faulty, Call.read(), text.startsWith("of") ? -10 : text.endsWith(";") ? -27 : -18);
            }
        }
        taken(Sample.SOME, Call.read(), 1);
        taken(Sample.NO_FIT, Call.read(), 1);
        taken(Sample.FULL, Call.read(), 8);
    }

    // ---- what fits

    private static void p10Fits() {
        asked(Sample.EMPTY, Call.fits(), 1);
        asked(Sample.NO_FIT, Call.fits(), 0);
        asked(Sample.FULL_NO_FIT, Call.fits(), 0);
    }

    private static void p11First() {
        bad(Sample.EMPTY, Call.first(0), Call.first(-1), Call.first(1));
        bad(Sample.SOME, Call.first(-1), Call.first(6), Call.first(LOW), Call.first(HIGH));
        bad(Sample.FULL, Call.first(-1), Call.first(12));
        asked(Sample.SOME, Call.first(0), 0);
        asked(Sample.SOME, Call.first(5), 3);
        asked(Sample.FULL, Call.first(0), 0);
        asked(Sample.FULL, Call.first(11), 10);
        no(Sample.NO_FIT, Call.first(0), Call.first(5));
        no(Sample.FULL_NO_FIT, Call.first(0), Call.first(11));
        // BAD ahead of NO
        bad(Sample.NO_FIT, Call.first(-1), Call.first(6), Call.first(LOW), Call.first(HIGH));
        bad(Sample.FULL_NO_FIT, Call.first(-1), Call.first(12));
    }

    private static void p12Moments() {
        asked(Sample.EMPTY, Call.moments(), 0);
        asked(Sample.SOME, Call.moments(), 5);
        no(Sample.NO_FIT, Call.moments());
        no(Sample.FULL_NO_FIT, Call.moments());
    }

    private static void p13Last() {
        bad(Sample.EMPTY, Call.last(0), Call.last(-1), Call.last(1), Call.last(LOW), Call.last(HIGH));
        bad(Sample.SOME, Call.last(5), Call.last(-1), Call.last(6), Call.last(12), Call.last(LOW), Call.last(HIGH));
        asked(Sample.SOME, Call.last(0), 1);
        asked(Sample.SOME, Call.last(4), 0);
        bad(Sample.FULL, Call.last(-1), Call.last(11), Call.last(12));
        asked(Sample.FULL, Call.last(0), 1);
        asked(Sample.FULL, Call.last(10), 0);
        // NO ahead of BAD
        no(Sample.NO_FIT, Call.last(0), Call.last(-1), Call.last(99), Call.last(LOW), Call.last(HIGH));
        no(Sample.FULL_NO_FIT, Call.last(0), Call.last(-1), Call.last(12));
    }

    private static void p14Clash() {
        asked(Sample.EMPTY, Call.clash(), -1);
        asked(Sample.SOME, Call.clash(), -1);
        asked(Sample.FULL, Call.clash(), -1);
        asked(Sample.NO_FIT, Call.clash(), 1 | 4);
        asked(Sample.FULL_NO_FIT, Call.clash(), 1 | 128);
    }

    private static void p15Drop() {
        asked(Sample.EMPTY, Call.drop(), 0);
        asked(Sample.SOME, Call.drop(), 0);
        asked(Sample.FULL, Call.drop(), 0);
        asked(Sample.NO_FIT, Call.drop(), 1);
        asked(Sample.FULL_NO_FIT, Call.drop(), 1);
    }

    private static void p16Between() {
        Call[] alike = {Call.between(0, 0), Call.between(1, 1), Call.between(5, 5)};
        Call[] wrong = {Call.between(-1, 0), Call.between(0, -1), Call.between(6, 0), Call.between(0, 6), Call.between(-1, -1),
            Call.between(6, 6), Call.between(LOW, 0), Call.between(0, LOW), Call.between(HIGH, 0), Call.between(0, HIGH)};
        bad(Sample.EMPTY, Call.between(0, 1), Call.between(0, 0), Call.between(-1, 0));
        bad(Sample.SOME, alike);
        bad(Sample.SOME, wrong);
        bad(Sample.FULL, Call.between(12, 0), Call.between(0, 12), Call.between(11, 11), Call.between(-1, 11));
        asked(Sample.SOME, Call.between(0, 5), 1);
        asked(Sample.SOME, Call.between(5, 0), 4);
        asked(Sample.FULL, Call.between(0, 11), 1);
        asked(Sample.FULL, Call.between(11, 0), 4);
        no(Sample.NO_FIT, Call.between(0, 5), Call.between(5, 0), Call.between(0, 1));
        no(Sample.FULL_NO_FIT, Call.between(0, 11), Call.between(11, 10));
        // BAD ahead of NO
        bad(Sample.NO_FIT, alike);
        bad(Sample.NO_FIT, wrong);
        bad(Sample.FULL_NO_FIT, Call.between(12, 0), Call.between(0, 12), Call.between(11, 11));
    }

    private static void p17Sure() {
        asked(Sample.EMPTY, Call.sure(), 0);
        no(Sample.NO_FIT, Call.sure());
        no(Sample.FULL_NO_FIT, Call.sure());
    }

    /** Without a FIT it is 0: its promise tells of no NO. */
    private static void p18Together() {
        Call[] wrong = {Call.together(0, 0), Call.together(2, 2), Call.together(-1, 0), Call.together(0, -1), Call.together(3, 0),
            Call.together(0, 3), Call.together(-1, -1), Call.together(LOW, 0), Call.together(0, LOW), Call.together(HIGH, 0),
            Call.together(0, HIGH)};
        bad(Sample.EMPTY, Call.together(0, 1), Call.together(0, 0));
        bad(Sample.SOME, wrong);
        bad(Sample.NO_FIT, wrong);
        bad(Sample.FULL, Call.together(6, 0), Call.together(0, 6), Call.together(5, 5));
        asked(Sample.SOME, Call.together(0, 2), 0);
        asked(Sample.SOME, Call.together(2, 1), 4);
        asked(Sample.NO_FIT, Call.together(2, 1), 0);
        asked(Sample.NO_FIT, Call.together(0, 2), 0);
        asked(Sample.FULL_NO_FIT, Call.together(0, 5), 0);
        asked(Sample.FULL_NO_FIT, Call.together(5, 0), 0);
    }

    private static void p19Ask() {
        Call[] wrong = {Call.ask(-1), Call.ask(2), Call.ask(LOW), Call.ask(HIGH)};
        bad(Sample.EMPTY, wrong);
        bad(Sample.SOME, wrong);
        asked(Sample.EMPTY, Call.ask(0), -1);
        asked(Sample.EMPTY, Call.ask(1), -1);
        no(Sample.NO_FIT, Call.ask(0), Call.ask(1));
        no(Sample.FULL_NO_FIT, Call.ask(0), Call.ask(1));
        // BAD ahead of NO
        bad(Sample.NO_FIT, wrong);
        bad(Sample.FULL_NO_FIT, wrong);
    }

    private static void p20One() {
        // there are not as many of each, or none
        for (Sample sample : new Sample[] {Sample.EMPTY, Sample.SOME, Sample.NO_FIT}) {
            bad10(sample, Call.one(-2), Call.one(-1), Call.one(0), Call.one(1), Call.one(3), Call.one(LOW), Call.one(HIGH));
        }
        for (int things = 1; things <= 6; things++) {
            for (int second = 0; second <= things; second++) {
                Sample stories = stories(things, second);
                bad10(stories, Call.one(-2), Call.one(LOW));
                if (2 * second != things) {
                    bad10(stories, Call.one(-1), Call.one(0), Call.one(HIGH));
                } else {
                    asked(stories, Call.one(0), second);
                    asked(stories, Call.one(second - 1), things - 1);
                    asked(stories, Call.one(second), -5);
                    asked(stories, Call.one(HIGH), -5);
                    asked(stories, Call.one(-1), second == 3 ? 6 : second);
                }
            }
        }
        // no way: none is counted in STATUS; i below -1 is BAD all the same
        asked(Sample.FULL_NO_FIT, Call.one(-1), 0);
        for (int i : new int[] {0, 2, 3, HIGH}) {
            asked(Sample.FULL_NO_FIT, Call.one(i), -5);
        }
        bad10(Sample.FULL_NO_FIT, Call.one(-2), Call.one(LOW));
    }

    /** So many THINGS, the last ones of them of STORY 1. */
    private static Sample stories(int things, int second) {
        return new Sample(things + " things, " + second + " of story 1", () -> {
            NoWhen x = Checks.things(things);
            for (int t = things - second; t < things; t++) {
                x.story(t, 1);
            }
            return x;
        });
    }

    private static void p21Word() {
        Call[] wrong = {Call.word(-1), Call.word(4), Call.word(LOW), Call.word(HIGH)};
        for (Sample sample : new Sample[] {Sample.EMPTY, Sample.SOME, Sample.NO_FIT, Sample.FULL_NO_FIT}) {
            bad(sample, wrong);
        }
        for (int p = 0; p <= 3; p++) {
            asked(Sample.EMPTY, Call.word(p), 1);
            asked(Sample.NO_FIT, Call.word(p), p == 2 || p == 3 ? 1 : 0);
            asked(Sample.FULL_NO_FIT, Call.word(p), p == 0 || p == 3 ? 1 : 0);
        }
    }

    private static void p22Against() {
        asked(Sample.EMPTY, Call.against(), 15);
        asked(Sample.NO_FIT, Call.against(), 4 | 8);
        asked(Sample.FULL_NO_FIT, Call.against(), 1 | 8);
    }

    // ---- a watch

    private static void p23Watch() {
        bad10(Sample.EMPTY, Call.watch(0, 0), Call.watch(0, -1), Call.watch(-1, -1));
        Call[] wrong = {Call.watch(-1, 0), Call.watch(0, -2), Call.watch(0, 100), Call.watch(-1, 100), Call.watch(LOW, 0),
            Call.watch(HIGH, 0), Call.watch(0, LOW), Call.watch(0, HIGH)};
        for (Sample sample : new Sample[] {Sample.SOME, Sample.NO_FIT, Sample.FULL}) {
            bad10(sample, wrong);
        }
        bad10(Sample.SOME, Call.watch(6, 0), Call.watch(6, -1));
        bad10(Sample.FULL, Call.watch(12, 0), Call.watch(12, -1), Call.watch(11, 100), Call.watch(11, -2));
        for (int minute : new int[] {-1, 0, 1, 50, 98, 99}) {
            taken(Sample.SOME, Call.watch(0, minute), 7);
            taken(Sample.SOME, Call.watch(5, minute), -1);
            taken(Sample.NO_FIT, Call.watch(5, minute), -1);
            taken(Sample.FULL, Call.watch(11, minute), 99);
        }
    }

    private static void p24Minute() {
        bad(Sample.EMPTY, Call.minute(0, 0), Call.minute(0, 1), Call.minute(-1, 0));
        Call[] wrong = {Call.minute(-1, 0), Call.minute(0, -1), Call.minute(0, 2), Call.minute(-1, 2), Call.minute(LOW, 0),
            Call.minute(HIGH, 0), Call.minute(0, LOW), Call.minute(0, HIGH)};
        for (Sample sample : new Sample[] {Sample.SOME, Sample.NO_FIT, Sample.FULL}) {
            bad(sample, wrong);
        }
        bad(Sample.SOME, Call.minute(6, 0));
        bad(Sample.NO_FIT, Call.minute(6, 1));
        bad(Sample.FULL, Call.minute(12, 0), Call.minute(11, 2));
        asked(Sample.SOME, Call.minute(0, 0), 7);
        asked(Sample.SOME, Call.minute(5, 1), 40);
        asked(Sample.FULL, Call.minute(11, 0), 99);
        // none is an answer, no refusal
        for (int what = 0; what <= 1; what++) {
            asked(Sample.NO_FIT, Call.minute(0, what), -1);
            asked(Sample.NO_FIT, Call.minute(5, what), -1);
            asked(Sample.FULL_NO_FIT, Call.minute(11, what), -1);
        }
    }

    // ---- what there is

    private static void p25Image() {
        Call[] wrong = {Call.image(-1), Call.image(2), Call.image(LOW), Call.image(HIGH)};
        for (Sample sample : new Sample[] {Sample.EMPTY, Sample.SOME, Sample.FULL}) {
            bad(sample, wrong);
            taken(sample, Call.image(0), 1);
            taken(sample, Call.image(1), 1);
        }
    }

    private static void p26From() {
        Call[] wrong = {Call.from(-1), Call.from(2), Call.from(LOW), Call.from(HIGH)};
        // BAD ahead of NO
        bad(Sample.EMPTY, wrong);
        bad(Sample.SOME, wrong);
        bad(Sample.FULL, wrong);
        no(Sample.EMPTY, Call.from(0), Call.from(1));
        no(Sample.SOME, Call.from(1));
        taken(Sample.SOME, Call.from(0), 1);
        taken(Sample.FULL, Call.from(0), 1);
        taken(Sample.FULL, Call.from(1), 1);
        Sample second = new Sample("image 1 alone", () -> {
            NoWhen x = Checks.things(2);
            x.image(1);
            return x;
        });
        no(second, Call.from(0));
        taken(second, Call.from(1), 1);
    }

    private static void p27Status() {
        for (Sample sample : new Sample[] {Sample.EMPTY, Sample.NO_FIT, Sample.FULL}) {
            refused(BAD, -1, sample, Call.status(-1), Call.status(3), Call.status(LOW), Call.status(HIGH));
            for (int what = 0; what <= 2; what++) {
                asked(sample, Call.status(what), sample == Sample.EMPTY ? 0 : 3 - what);
            }
        }
    }

    private static void p28Count() {
        int[] counts = {6, 8, 12, 200};
        for (Sample sample : new Sample[] {Sample.EMPTY, Sample.NO_FIT, Sample.FULL}) {
            bad(sample, Call.count(-1), Call.count(4), Call.count(LOW), Call.count(HIGH));
        }
        for (int what = 0; what <= 3; what++) {
            asked(Sample.EMPTY, Call.count(what), 0);
            asked(Sample.FULL, Call.count(what), counts[what]);
        }
    }

    private static void p29Digest() {
        long h = 709;
        for (int k = 0; k < 4; k++) {
            h = 31 * h;
        }
        asked(Sample.EMPTY, Call.digest(), h);
        NoWhen x = Sample.SOME.make();
        asked(Sample.SOME, Call.digest(), x.digest());
    }
}
