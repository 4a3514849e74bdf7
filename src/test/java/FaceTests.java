import java.io.IOException;
import java.lang.reflect.Constructor;
import java.lang.reflect.Field;
import java.lang.reflect.Method;
import java.lang.reflect.Modifier;
import java.nio.file.Files;
import java.nio.file.Path;
import java.util.List;
import java.util.TreeSet;
import java.util.regex.Matcher;
import java.util.regex.Pattern;

/** The face of the class, and those rules of LANGUAGE.md that can be seen in its members and its text. */
public final class FaceTests {
    private static final String[] FACE = {
        "int thing()", "int of(int,int)", "int story(int,int)", "int say(int,int,int,int)", "int unsay()",
        "int type(long,int)", "int clear()", "int read()", "long fits()", "int first(int)", "int moments()",
        "int last(int)", "int clash()", "int drop()", "int between(int,int)", "int sure()", "long together(int,int)",
        "long ask(int)", "int one(int)", "int word(int)", "int against()", "int watch(int,int)", "int minute(int,int)",
        "int image(int)", "int from(int)", "int status(int)", "int count(int)", "long digest()"};

    private FaceTests() {
    }

    public static void main(String[] args) throws IOException {
        face();
        members();
        text(Files.readAllLines(Path.of(args[0])));
        Checks.end("FaceTests");
    }

    private static String told(Method m) {
        StringBuilder s = new StringBuilder(m.getReturnType() + " " + m.getName() + "(");
        for (Class<?> c : m.getParameterTypes()) {
            s.append(s.charAt(s.length() - 1) == '(' ? "" : ",").append(c);
        }
        return s.append(")").toString();
    }

    private static void face() {
        TreeSet<String> seen = new TreeSet<>();
        for (Method m : NoWhen.class.getDeclaredMethods()) {
            if (!Modifier.isPrivate(m.getModifiers())) {
                seen.add(told(m));
                Checks.due(m + " is public and of the object",
                    Modifier.isPublic(m.getModifiers()) && !Modifier.isStatic(m.getModifiers()) ? 1 : 0, 1);
            }
        }
        TreeSet<String> due = new TreeSet<>(List.of(FACE));
        Checks.due("the face is " + seen, seen.equals(due) ? 1 : 0, 1);
        Constructor<?>[] made = NoWhen.class.getDeclaredConstructors();
        Checks.due("constructors", made.length, 1);
        Checks.due("the constructor is public", Modifier.isPublic(made[0].getModifiers()) ? 1 : 0, 1);
        Checks.due("the constructor takes nothing", made[0].getParameterCount(), 0);
        Checks.due("the class is final", Modifier.isFinal(NoWhen.class.getModifiers()) ? 1 : 0, 1);
        Checks.due("NONE", NoWhen.NONE, -1);
        Checks.due("BAD", NoWhen.BAD, -2);
        Checks.due("NO", NoWhen.NO, -3);
        Checks.due("FULL", NoWhen.FULL, -4);
    }

    private static void members() {
        TreeSet<String> open = new TreeSet<>();
        for (Field f : NoWhen.class.getDeclaredFields()) {
            if (!Modifier.isPrivate(f.getModifiers())) {
                open.add(f.getName());
            }
        }
        Checks.due("fields that are not private: " + open, open.equals(new TreeSet<>(List.of("NONE", "BAD", "NO", "FULL"))) ? 1 : 0, 1);
        Class<?>[] inside = NoWhen.class.getDeclaredClasses();
        Checks.due("some twelve classes", inside.length + 1 <= 12 ? 1 : 0, 1);
        fieldsOf(NoWhen.class);
        for (Class<?> c : inside) {
            Checks.due(c + " is static", Modifier.isStatic(c.getModifiers()) ? 1 : 0, 1);
            fieldsOf(c);
            for (Method m : c.getDeclaredMethods()) {
                notOfTheFace(m);
            }
        }
        for (Method m : NoWhen.class.getDeclaredMethods()) {
            if (Modifier.isPrivate(m.getModifiers())) {
                notOfTheFace(m);
            }
        }
    }

    private static void notOfTheFace(Method m) {
        for (String f : FACE) {
            Checks.due(m + " bears a name of the face", f.contains(" " + m.getName() + "(") ? 1 : 0, 0);
        }
        Checks.due(m + " takes at most seven", m.getParameterCount() <= 7 ? 1 : 0, 1);
    }

    private static void fieldsOf(Class<?> c) {
        int own = 0;
        for (Field f : c.getDeclaredFields()) {
            if (Modifier.isStatic(f.getModifiers())) {
                Checks.due(f + " is final", Modifier.isFinal(f.getModifiers()) ? 1 : 0, 1);
            } else {
                own++;
            }
        }
        Checks.due("fields of " + c, own <= 20 ? 1 : 0, 1);
    }

    /** Of the library only these are used, fewer than LANGUAGE.md allows. */
    private static void library(String code, int line) {
        Matcher call = Pattern.compile("\\b[A-Z][a-z]\\w*\\.\\w+").matcher(code);
        while (call.find()) {
            boolean isAllowed = List.of("Math.min", "Math.max", "Integer.bitCount").contains(call.group());
            Checks.due("line " + line + " calls " + call.group(), isAllowed ? 1 : 0, 1);
        }
    }

    private static void text(List<String> lines) {
        String[] never = {"throw", "try", "catch", "synchronized", "assert", "import", "package", "protected", "var",
            "System", "Random", "Thread", "->", "::", "finally", "volatile"};
        int start = -1;
        for (int k = 0; k < lines.size(); k++) {
            String line = lines.get(k);
            String code = line.replaceAll("\"[^\"]*\"", "\"\"").replaceAll("//.*|/\\*.*|^\\s*\\*.*", "");
            for (String word : never) {
                boolean stands = Character.isLetter(word.charAt(0))
                    ? code.matches(".*\\b" + word + "\\b.*") : code.contains(word);
                Checks.due("line " + (k + 1) + " has " + word, stands ? 1 : 0, 0);
            }
            Checks.due("line " + (k + 1) + " is of signs 32 to 126", line.chars().allMatch(c -> c >= 32 && c < 127) ? 1 : 0, 1);
            // no call makes an object: all rows are made with the object itself
            Checks.due("line " + (k + 1) + " makes an object in a call",
                code.matches(".*\\bnew\\b.*") && !code.matches("\\s+(private |final )+[A-Z]?[A-Za-z]+(\\[\\])? [A-Za-z]+ = (new|\\{new) .*;") ? 1 : 0, 0);
            library(code, k + 1);
            if (code.matches("\\s+[A-Za-z].*\\(.*\\) \\{") && !code.matches("\\s+(for|if|while|switch|do|\\}).*")) {
                start = k;
            }
            if (start >= 0 && code.matches("( {4}| {8})\\}")) {
                Checks.due("the method of line " + (start + 1) + " is short", k - start < 60 ? 1 : 0, 1);
            }
        }
    }
}
