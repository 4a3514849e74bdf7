import java.util.function.Supplier;

/** An object that can be made again and again, each time the same, by its name. */
record Sample(String name, Supplier<NoWhen> maker) {
    static final Sample EMPTY = new Sample("empty", NoWhen::new);
    static final Sample SOME = new Sample("some", Sample::some);
    static final Sample NO_FIT = new Sample("no fit", Sample::noFit);
    static final Sample FULL = new Sample("full", Sample::full);
    static final Sample FULL_NO_FIT = new Sample("full, no fit", Sample::fullNoFit);

    /** A HISTORY of 200 bytes: all ITEMS that there can be of each sort. */
    static final String FULL_TEXT = "things 6;"
        + "0 ahead 1 by 0;1 meets 2 by 1;3 while 2 by 2;4 inside 3 by 3;5 begins 4 by 0;3 ends 2 by 1;"
        + "0 apart 5 by 2;  0 apart 3; "
        + "of 0 0;of 1 1;of 2 2;of 3 3;of 4 0;of 5 1;story 1;story 3;story 5;      ";

    NoWhen make() {
        return maker.get();
    }

    /** What STATUS tells of all samples but the empty one. */
    static final String STATUS = "3 BAD, 2 NO, 1 FULL";

    /** Nothing yet, but that calls were refused for each reason. */
    private static NoWhen refusedBefore(int things) {
        NoWhen x = Checks.things(things);
        for (int k = 0; k < 3; k++) {
            x.count(4 + k);
        }
        x.unsay();
        x.unsay();
        Checks.typed(x, ";".repeat(200));
        x.type(0, 1);
        x.clear();
        return x;
    }

    /** Three THINGS (0 meets 1, 2 while 1), THE TEXT of 32 bytes; IMAGE 0 has two THINGS, IMAGE 1 was never kept. */
    private static NoWhen some() {
        NoWhen x = refusedBefore(2);
        x.say(0, 1, 1, 3);
        x.watch(3, 40);
        x.image(0);
        x.thing();
        x.of(0, 1);
        x.of(2, 1);
        x.story(2, 1);
        x.say(2, 2, 1, 0);
        x.watch(0, 7);
        Checks.typed(x, "things 2;1 cross 0 by 2;story 1;");
        return x;
    }

    /** The same, and 1 ahead of 0. */
    private static NoWhen noFit() {
        NoWhen x = some();
        x.say(1, 0, 0, 2);
        return x;
    }

    /** Six THINGS, eight SAYINGS, THE WATCH of all ENDS, THE TEXT of 200 bytes; both IMAGES. */
    private static NoWhen full() {
        NoWhen x = refusedBefore(1);
        x.of(0, 2);
        x.image(1);
        for (int t = 1; t < 6; t++) {
            x.thing();
        }
        int[] whose = {0, 0, 1, 1, 2, 3};
        int[] moment = {0, 1, 3, 4, 2, 5, 6, 8, 7, 10, 6, 11};
        for (int t = 0; t < 6; t++) {
            x.of(t, whose[t]);
            x.story(t, t / 3);
            x.watch(2 * t, 9 * moment[2 * t]);
            x.watch(2 * t + 1, 9 * moment[2 * t + 1]);
        }
        int[][] sayings = {{0, 0, 1}, {1, 2, 2}, {2, 6, 3}, {3, 7, 4}, {4, 3, 5}, {3, 4, 5}, {2, 0, 5}, {1, 3, 2}};
        for (int s = 0; s < 8; s++) {
            x.say(sayings[s][0], sayings[s][1], sayings[s][2], s % 4);
        }
        Checks.typed(x, FULL_TEXT);
        x.image(0);
        return x;
    }

    /** The same, with a last SAYING that can not be kept with the first. */
    private static NoWhen fullNoFit() {
        NoWhen x = full();
        x.unsay();
        x.say(1, 0, 0, 3);
        return x;
    }
}
