import java.util.ArrayList;
import java.util.List;

/** Each place at which a TEXT may have its FAULT: behind each beginning of a HISTORY, each TOKEN that can not stand there. */
public final class FaultTests {
    private static final List<String> KINDS = List.of("ahead", "meets", "while", "inside", "begins", "ends", "apart", "cross");
    /** Words that are none, though they are like one. */
    private static final String NO_WORDS = "a b thing thingss hings o off ofo stor storyy stories sto b byy yb ahea aheadd head mets meet "
        + "meetss whil whiles insid insides begin beginss end endss apar aparts cros crosss z none no nobody";
    /** Runs of two figures or more. */
    private static final String RUNS = "00 01 02 10 11 12 20 23 33 66 99 000 123 0000000000 4294967296";
    private static final String ODD_BYTES = "\0\1\t\n\13\f\r\37!\"#$%&'()*+,-./:<=>?@ABEFMNOSTWXYZ[\\]^_`{|}~\177\u0080\u0085\u009f\u00a0\u00ad\u00b2\u00b9\u00df\u00e4\u00f1\u00ff";
    private static final String EIGHT = "things 3;0 ahead 1;0 apart 1;0 apart 2;0 apart 1;0 apart 1 by 3;0 apart 1;0 apart 1;1 meets 2;";

    private FaultTests() {
    }

    public static void main(String[] args) {
        beginnings();
        numbersOfThings();
        oddBytes();
        runsOfFigures();
        ninth();
        blanks();
        lettersAndFigures();
        endsTooEarly();
        wordsLetterByLetter();
        empty();
        full();
        stays();
        takesThePlace();
        tellsNothingTwice();
        Checks.end("FaultTests");
    }

    private static void fault(String text, int place) {
        NoWhen x = Checks.things(1);
        Checks.due("bytes of '" + text + "'", Checks.typed(x, text), text.length());
        Checks.due("read of '" + text + "'", x.read(), -10 - place);
        Checks.due("things behind '" + text + "'", x.count(0), 1);
        Checks.same("status behind '" + text + "'", Look.status(x), "0 BAD, 0 NO, 0 FULL");
    }

    /** The TEXT is a HISTORY: as many SAYINGS as it has KINDS, as many THINGS as its first figure tells. */
    private static void stands(String text) {
        NoWhen x = Checks.things(1);
        Checks.due("bytes of '" + text + "'", Checks.typed(x, text), text.length());
        int sayings = 0;
        for (String word : text.split("[^a-z]+")) {
            sayings += KINDS.contains(word) ? 1 : 0;
        }
        Checks.due("read of '" + text + "'", x.read(), sayings);
        Checks.due("sayings behind '" + text + "'", x.count(1), sayings);
        Checks.due("things behind '" + text + "'", x.count(0), text.replaceAll("^[ a-z]+", "").charAt(0) - '0');
    }

    private static List<String> allTokens() {
        List<String> all = new ArrayList<>(KINDS);
        all.addAll(List.of("things", "of", "story", "by", ";"));
        all.addAll(List.of(NO_WORDS.split(" ")));
        all.addAll(List.of(RUNS.split(" ")));
        all.addAll(List.of("0123456789".split("")));
        all.addAll(List.of(ODD_BYTES.split("")));
        return all;
    }

    /** Behind this beginning those TOKENS can stand with which a way begins (it makes a HISTORY), and no others. */
    private static void behind(String beginning, String... ways) {
        List<String> good = new ArrayList<>();
        for (String way : ways) {
            good.add(way.replaceFirst("^([a-z]+|.).*", "$1"));
            for (String gap : new String[] {" ", "", "   "}) {
                if (!grow(beginning + gap, way)) {
                    stands(beginning + gap + way);
                }
            }
        }
        for (String token : allTokens()) {
            if (good.contains(token)) {
                continue;
            }
            for (String gap : new String[] {" ", "", "   "}) {
                int place = beginning.length() + gap.length();
                if (!grow(beginning + gap, token)) {
                    fault(beginning + gap + token, place);
                    fault(beginning + gap + token + ";", place);
                    fault(beginning + gap + token + " 1 ahead 2;", place);
                    fault(beginning + gap + token + " ?", place);
                }
            }
        }
    }

    /** Behind the beginning the TEXT ends too early. */
    private static void endsBehind(String beginning) {
        for (int n = 0; n <= 3; n++) {
            fault(beginning + " ".repeat(n), beginning.length() + n);
        }
    }

    /** Whether the first TOKEN would make one with the last of the beginning. */
    private static boolean grow(String beginning, String token) {
        if (beginning.isEmpty()) {
            return false;
        }
        char last = beginning.charAt(beginning.length() - 1), next = token.charAt(0);
        return isLetter(last) && isLetter(next) || isFigure(last) && isFigure(next);
    }

    private static boolean isLetter(char c) {
        return c >= 'a' && c <= 'z';
    }

    private static boolean isFigure(char c) {
        return c >= '0' && c <= '9';
    }

    /** Each place of each ITEM. */
    private static void beginnings() {
        notYet("", "things 3;");
        notYet("things", "1;", "2;", "3;", "4;", "5;", "6;");
        notYet("things 3", ";");
        for (String items : new String[] {"", "of 1 2;", "story 1;", "0 while 2;", "of 0 0;1 ends 2 by 3;story 2;"}) {
            String beginning = "things 3;" + items;
            behind(beginning, "0 meets 1;", "1 meets 2;", "2 meets 0;", "of 0 0;", "story 0;");
            stands(beginning);
            stands(beginning + " ");
            stands(beginning + "   ");
        }
        notYet("things 3;of", "0 3;", "1 0;", "2 1;");
        notYet("things 3;of 2", "0;", "1;", "2;", "3;");
        notYet("things 3;of 2 3", ";");
        notYet("things 3;story", "0;", "1;", "2;");
        notYet("things 3;story 2", ";");
        String[] others = {"1; 2;", "2; 0;", "0; 1;"};
        for (int a = 0; a < 3; a++) {
            String[] b = others[a].split(" ");
            List<String> ways = new ArrayList<>();
            for (String kind : KINDS) {
                ways.add(kind + " " + b[0]);
                notYet("things 3;" + a + " " + kind, b);
            }
            notYet("things 3;" + a, ways.toArray(new String[0]));
        }
        notYet("things 3;1 inside 2", ";", "by 3;");
        notYet("things 3;1 inside 2 by", "0;", "1;", "2;", "3;");
        notYet("things 3;1 inside 2 by 3", ";");
    }

    private static void notYet(String beginning, String... ways) {
        behind(beginning, ways);
        endsBehind(beginning);
    }

    /** The numbers just within and just without, for each number of THINGS. */
    private static void numbersOfThings() {
        fault("things 0;", 7);
        fault("things 7;", 7);
        fault("things 8;", 7);
        fault("things 9;", 7);
        for (int n = 1; n <= 6; n++) {
            String head = "things " + n + ";";
            stands(head);
            stands(head + "of " + (n - 1) + " 3;");
            fault(head + "of " + n + " 3;", 12);
            stands(head + "story " + (n - 1) + ";");
            fault(head + "story " + n + ";", 15);
            fault(head + n + " ahead 0;", 9);
            fault(head + "0 ahead " + n + ";", 17);
            fault(head + "0 ahead 0;", 17);
            fault(head + (n - 1) + " ahead " + (n - 1) + ";", 17);
            if (n > 1) {
                stands(head + (n - 1) + " ahead 0;");
                stands(head + "0 ahead " + (n - 1) + ";");
            }
        }
        // the one THING is like a, and there is no other
        fault("things 1;0 cross 1;", 17);
        fault("things 1;1 cross 0;", 9);
        fault("things 1;0 cross;", 16);
    }

    /** A byte that begins no TOKEN: at itself, be it behind a word, a figure or a blank. */
    private static void oddBytes() {
        for (char odd : ODD_BYTES.toCharArray()) {
            fault(odd + "", 0);
            fault(odd + "things 2;", 0);
            fault("things" + odd, 6);
            fault("things" + odd + "2;", 6);
            fault("things 2" + odd + ";", 8);
            fault("things 2;" + odd, 9);
            fault("things 2;0" + odd + "ahead 1;", 10);
            fault("things 2;0 ahead" + odd + "1;", 16);
            fault("things 2;0 ahead 1" + odd + ";", 18);
            fault("things 2;0 ahead 1 by" + odd + "1;", 21);
            fault("things 2;0 ahead 1 by 1" + odd + ";", 23);
            fault("things 2;0 ahead 1;" + odd, 19);
            fault("things 2;of 0" + odd + "1;", 13);
            // a word that is none ahead of it
            fault("thin" + odd + "gs 2;", 0);
            fault("things 2;0 ah" + odd + "ead 1;", 11);
        }
        for (int c = 0; c < 256; c++) {
            if (c == ' ') {
                stands("things 2;" + (char) c);
            } else {
                fault("things 2;" + (char) c, c == '0' || c == '1' ? 10 : 9);
            }
        }
    }

    /** A run of two figures or more: at its first one, wherever it stands. */
    private static void runsOfFigures() {
        for (String run : RUNS.split(" ")) {
            fault("things " + run + ";", 7);
            fault("things" + run + ";", 6);
            fault("things 6;of " + run + " 1;", 12);
            fault("things 6;of 1 " + run + ";", 14);
            fault("things 6;of" + run + ";", 11);
            fault("things 6;story " + run + ";", 15);
            fault("things 6;" + run + " ahead 1;", 9);
            fault("things 6;5 ahead " + run + ";", 17);
            fault("things 6;5 ahead 1 by " + run + ";", 22);
            fault("things 6;5 ahead 4" + run + ";", 17);
        }
        stands("things 6;of 1 1;");
        fault("things 6;of 11;", 12);
    }

    /** A 9th SAYING: at its first NUMBER, be the rest of it as it may; other ITEMS may come. */
    private static void ninth() {
        int at = EIGHT.length();
        stands(EIGHT);
        stands(EIGHT + "  ");
        stands(EIGHT + "of 0 1;story 1;of 2 0;");
        for (String ninth : new String[] {"0", "1 ahead 2;", "2 ahead 2;", "9 ahead 2;", "00 ahead 2;", "0;", "0 0;", "0?"}) {
            fault(EIGHT + ninth, at);
            fault(EIGHT + "  " + ninth, at + 2);
            fault(EIGHT + "of 1 1;" + ninth, at + 7);
            fault(EIGHT + "story 1; " + ninth, at + 9);
        }
        for (String token : new String[] {"ahead", "by", "things", ";", "x", "?"}) {
            fault(EIGHT + token, at);
        }
        endsBehind(EIGHT + "of");
        endsBehind(EIGHT + "of 0");
        endsBehind(EIGHT + "of 0 1");
        endsBehind(EIGHT + "story");
        endsBehind(EIGHT + "story 1");
        // an 8th may still have its own FAULT
        fault(EIGHT.substring(0, at - 10) + "1 meets 1;", at - 2);
        stands(EIGHT.substring(0, at - 10));
    }

    /** Blanks are needed between two words and two numbers alone, and may stand anywhere else in any number. */
    private static void blanks() {
        stands("things3;");
        stands("things3;of1 2;story1;0ahead1by2;2meets1;");
        stands(" things 3 ; of 1 2 ; story 1 ; 0 ahead 1 by 2 ; 2 meets 1 ; ");
        stands("   things   3   ;   of   1   2   ;   story   1   ;   0   ahead   1   by   2   ;   2   meets   1   ;   ");
        stands("things 3;0cross1by0;");
        fault("things3;of12;", 10);
        fault("things3;0aheadby1;", 9);
        fault("things3;0 ahead1by22;", 18);
        fault("th ings 3;", 0);
        fault("things 3;0 a head 1;", 11);
        fault("things 3;0 ahead 1 b y 1;", 19);
        fault("things 3;storyof 1;", 9);
        for (int n = 0; n <= 190; n += 19) {
            fault(" ".repeat(n), n);
            fault(" ".repeat(n) + ";", n);
            fault(" ".repeat(n) + "things 0", n + 7);
            stands(" ".repeat(n) + "things 1;");
            stands("things 1;" + " ".repeat(n));
            fault("things 1;" + " ".repeat(n) + "1", n + 9);
        }
    }

    /** The letters and figures at the ends of their rows, and the signs next to them. */
    private static void lettersAndFigures() {
        fault("things 2;a", 9);
        fault("things 2;z", 9);
        fault("things 2;0 aza 1;", 11);
        fault("things 2;0 ahead`1;", 16);
        fault("things 2;0 ahead{1;", 16);
        fault("things 2;0 ahead/1;", 16);
        fault("things 2;0 ahead:1;", 16);
        // a letter at a word's end makes another word, at the word's first byte
        fault("things 2;0 aheada 1;", 11);
        fault("things 2;0 aheadz 1;", 11);
        fault("things 2;0 zahead 1;", 11);
        fault("things 6;9 ahead 1;", 9);
        fault("things 6;6 ahead 1;", 9);
        stands("things 6;5 ahead 0;");
        fault("THINGS 2;", 0);
        fault("Things 2;", 0);
        fault("things 2;OF 0 1;", 9);
    }

    /** Cut behind each of its bytes a HISTORY ends too early, but behind an ITEM (and blanks). */
    private static void endsTooEarly() {
        String whole = "things 4;  of 3 2;story 1;0 cross 3 by 1 ; 2 begins 1;   ";
        String words = " things of story cross by begins ";
        for (int n = 0; n <= whole.length(); n++) {
            String cut = whole.substring(0, n);
            String ended = cut.trim();
            String word = ended.substring(startOfWord(ended));
            boolean isPart = !word.isEmpty() && cut.equals(ended) && !words.contains(" " + word + " ");
            if (isPart) {
                fault(cut, n - word.length());
            } else if (ended.endsWith(";")) {
                stands(cut);
            } else {
                fault(cut, n);
            }
        }
    }

    /** Where the letters at the end of a TEXT begin. */
    private static int startOfWord(String s) {
        int k = s.length();
        while (k > 0 && isLetter(s.charAt(k - 1))) {
            k--;
        }
        return k;
    }

    /** A word of which one letter is another, one is too few or one too many, is none: at its first byte. */
    private static void wordsLetterByLetter() {
        String[] words = {"things", "of", "story", "by", "ahead", "meets", "while", "inside", "begins", "ends", "apart", "cross"};
        String[] ahead = {"", "things 2;", "things 2;", "things 2;0 ahead 1 "};
        String[] behind = {" 2;", " 0 1;", " 1;", " 1;"};
        for (int w = 0; w < words.length; w++) {
            String from = w < 4 ? ahead[w] : "things 2;0 ", to = w < 4 ? behind[w] : " 1;";
            String word = words[w];
            stands(from + word + to);
            for (int k = 0; k < word.length(); k++) {
                String before = word.substring(0, k), after = word.substring(k + 1);
                fault(from + before + (char) (word.charAt(k) - 1) + after + to, from.length());
                fault(from + before + (char) (word.charAt(k) + 1) + after + to, from.length());
                fault(from + before + after + to, from.length());
                fault(from + before + word.charAt(k) + word.charAt(k) + after + to, from.length());
            }
        }
    }

    private static void empty() {
        NoWhen x = new NoWhen();
        Checks.due("read of nothing ever typed", x.read(), -10);
        Checks.typed(x, "things 1;");
        x.clear();
        Checks.due("read of nothing left", x.read(), -10);
        Checks.due("no things", x.count(0), 0);
    }

    /** THE TEXT of 200 bytes: its last byte counts, and its end may be too early. */
    private static void full() {
        String head = "things 2;" + " ".repeat(191 - 10);
        Checks.due("bytes", head.length(), 190);
        stands(head + "0 ahead 1;");
        stands("things 2;" + " ".repeat(191));
        stands(" ".repeat(191) + "things 2;");
        fault(head + "0 ahead 1 ", 200);
        fault(head + " 0 ahead 1", 200);
        fault(head + "0 ahead  1", 200);
        fault(head + "0 ahead 1b", 199);
        fault(head + "0 ahead 1?", 199);
        fault(head + "0 ahead 11", 198);
        fault(head + "        by", 198);
        fault(head + "  story  2", 199);
        fault(head + "  story  1", 200);
        fault(head + "         ;", 199);
        fault(head + "         9", 199);
        fault(head + "         0", 200);
        fault(" ".repeat(200), 200);
        fault(" ".repeat(199) + ";", 199);
        fault(";".repeat(200), 0);
        fault("z".repeat(200), 0);
        fault("7".repeat(200), 0);
        fault("things " + "1".repeat(193), 7);
        stands(Sample.FULL_TEXT);
        Checks.due("bytes of the full text", Sample.FULL_TEXT.length(), 200);
        fault(Sample.FULL_TEXT.substring(0, 199) + "0", 199);
    }

    /** A FAULT far behind leaves all that was: nothing of the ITEMS ahead of it is taken. */
    private static void stays() {
        String[] faulty = {"things 4;of 0 3;of 1 2;story 0;0 ahead 1;2 meets 1;1 meets 1;", "things 4;story 1;of 0", "things 4; 3", "things 4;;"};
        for (String text : faulty) {
            NoWhen x = Sample.FULL.make(), never = Sample.FULL.make();
            x.clear();
            never.clear();
            Checks.typed(x, text);
            Checks.typed(never, text);
            Checks.due("read of '" + text + "' refused", x.read() <= -10 ? 1 : 0, 1);
            Checks.same("all behind '" + text + "'", Look.through(x), Look.through(never));
        }
    }

    /** A HISTORY that is read takes the place of all THINGS (OF and STORY too), SAYINGS, of the watch; not of THE TEXT, STATUS, IMAGES. */
    private static void takesThePlace() {
        NoWhen x = Sample.FULL.make();
        x.clear();
        Checks.typed(x, "things 2;");
        x.thing();
        x.first(99);
        Checks.due("read of two things", x.read(), 0);
        NoWhen two = Checks.things(2);
        Checks.typed(two, "things 2;");
        Checks.same("status stays", Look.status(x), "4 BAD, 2 NO, 2 FULL");
        Checks.same("two things read", Look.at(x), Look.at(two));
        Checks.due("the text stays", x.count(3), 9);
        Checks.due("a third thing", x.thing(), 2);
        Checks.due("of nobody", x.of(2, 1), -1);
        Checks.due("of story 0", x.story(2, 1), 0);
        Checks.due("its beginning not watched", x.watch(4, 1), -1);
        Checks.due("its end not watched", x.watch(5, 2), -1);
        Checks.due("image 0 stays", x.from(0), 1);
        Checks.due("six things", x.count(0), 6);
        Checks.due("image 1 stays", x.from(1), 1);
        Checks.due("one thing", x.count(0), 1);
        Checks.due("of its one", x.of(0, 0), 2);
        // read again and again: the same
        NoWhen y = new NoWhen();
        Checks.typed(y, "things 3;0 ahead 1;of 2 2;");
        for (int k = 0; k < 5; k++) {
            Checks.due("read", y.read(), 1);
            Checks.due("things", y.count(0), 3);
            y.thing();
            y.say(3, 0, 2, 1);
        }
    }

    /** What one TEXT told, be it with a FAULT, the next does not tell. */
    private static void tellsNothingTwice() {
        String[] before = {Sample.FULL_TEXT, "things 6;of 0 0;of 5 1;story 0;story 5;0 ahead 5 by 3;5 meets 0 by 2;;"};
        for (String text : before) {
            for (int n = 1; n <= 6; n++) {
                NoWhen x = new NoWhen(), never = new NoWhen();
                Checks.typed(x, text);
                Checks.due("read", x.read(), text.equals(Sample.FULL_TEXT) ? 8 : -10 - text.length() + 1);
                x.clear();
                Checks.typed(x, "things " + n + ";");
                Checks.typed(never, "things " + n + ";");
                Checks.due("read of " + n, x.read(), never.read());
                Checks.same("things " + n + " behind " + text, Look.at(x), Look.at(never));
                for (int t = n; t < 6; t++) {
                    Checks.due("thing", x.thing(), never.thing());
                }
                Checks.same("six things behind " + text, Look.at(x), Look.at(never));
                Checks.due("digest", x.digest(), never.digest());
            }
        }
        // by is 0 where it is not told, though the SAYING ahead of it was by 3
        NoWhen y = new NoWhen();
        Checks.typed(y, "things 2;0 ahead 1 by 3;1 ahead 0;");
        Checks.due("read", y.read(), 2);
        Checks.due("against", y.against(), 1 | 8);
    }
}
