/** All that an object answers, as one text: objects that hold the same have the same text. */
final class Look {
    private Look() {
    }

    /** Asks what changes nothing but STATUS; STATUS itself is left out. */
    static String at(NoWhen x) {
        StringBuilder s = new StringBuilder();
        int things = x.count(0), ends = 2 * things;
        s.append("counts");
        for (int what = 0; what < 4; what++) {
            s.append(' ').append(x.count(what));
        }
        s.append(" digest ").append(x.digest()).append(" fits ").append(x.fits());
        int moments = x.moments();
        s.append(" moments ").append(moments).append(" first");
        for (int e = 0; e < ends; e++) {
            s.append(' ').append(x.first(e));
        }
        s.append(" last");
        for (int m = 0; m <= moments; m++) {
            s.append(' ').append(x.last(m));
        }
        s.append(" clash ").append(x.clash()).append(" drop ").append(x.drop()).append(" sure ").append(x.sure());
        s.append(" between");
        for (int e = 0; e < ends; e++) {
            for (int f = e + 1; f < ends; f++) {
                s.append(' ').append(x.between(e, f));
            }
        }
        s.append(" together");
        for (int a = 0; a < things; a++) {
            for (int b = a + 1; b < things; b++) {
                s.append(' ').append(x.together(a, b));
            }
        }
        s.append(" ask ").append(x.ask(0)).append(' ').append(x.ask(1)).append(" one");
        for (int i = -1; i < 4; i++) {
            s.append(' ').append(x.one(i));
        }
        s.append(" word");
        for (int p = 0; p < 4; p++) {
            s.append(' ').append(x.word(p));
        }
        s.append(" against ").append(x.against()).append(" minutes");
        for (int e = 0; e < ends; e++) {
            s.append(' ').append(x.minute(e, 0)).append('-').append(x.minute(e, 1));
        }
        return s.toString();
    }

    /** Looks at THE TEXT and the IMAGES too: what the object went on from before is gone then. */
    static String through(NoWhen x) {
        StringBuilder s = new StringBuilder(at(x));
        s.append(" read ").append(x.read()).append(' ').append(x.digest());
        s.append(" clear ").append(x.clear());
        for (int i = 0; i < 2; i++) {
            s.append(" from ").append(i).append(": ").append(x.from(i)).append(' ').append(x.digest());
        }
        return s.toString();
    }

    static String status(NoWhen x) {
        return x.status(0) + " BAD, " + x.status(1) + " NO, " + x.status(2) + " FULL";
    }
}
