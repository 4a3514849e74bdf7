/** Counts answers, and tells each that is not the one that is due. */
final class Checks {
    private static int right = 0;
    private static int wrong = 0;

    private Checks() {
    }

    static void due(String call, long got, long want) {
        if (got == want) {
            right++;
            return;
        }
        wrong++;
        if (wrong <= 40) {
            System.out.println(call + " answered " + got + ", due is " + want);
        }
    }

    static void same(String what, String got, String want) {
        if (got.equals(want)) {
            right++;
            return;
        }
        wrong++;
        if (wrong <= 40) {
            int k = 0;
            while (k < got.length() && k < want.length() && got.charAt(k) == want.charAt(k)) {
                k++;
            }
            System.out.println(what + " is not as due from sign " + k + " on: .. " + cut(got, k) + ", due is .. " + cut(want, k));
        }
    }

    private static String cut(String s, int k) {
        return s.substring(Math.max(0, k - 30), Math.min(s.length(), k + 30));
    }

    static boolean anyWrong() {
        return wrong > 0;
    }

    static void end(String name) {
        System.out.println(name + ": " + right + " answers as due, " + wrong + " not");
        if (wrong > 0 || right == 0) {
            System.exit(1);
        }
    }

    /** A new object with so many THINGS. */
    static NoWhen things(int n) {
        NoWhen x = new NoWhen();
        for (int t = 0; t < n; t++) {
            x.thing();
        }
        return x;
    }

    /** Types a text, eight bytes a call, and answers how many bytes THE TEXT has then. */
    static int typed(NoWhen x, String text) {
        int has = x.count(3);
        for (int from = 0; from < text.length(); from += 8) {
            int to = Math.min(text.length(), from + 8);
            long v = 0;
            for (int k = from; k < to; k++) {
                v = v << 8 | text.charAt(k);
            }
            has = x.type(v, to - from);
        }
        return has;
    }

    /** A new object that was told to read this text: the answer of read. */
    static int readOf(String text) {
        NoWhen x = new NoWhen();
        typed(x, text);
        return x.read();
    }
}
