import java.io.IOException;
import java.lang.reflect.Method;
import java.nio.file.Files;
import java.nio.file.Path;
import java.util.Arrays;
import java.util.List;
import java.util.regex.Matcher;
import java.util.regex.Pattern;

/** The rules of LANGUAGE.md that can be looked for in the text of the class; FaceTest has those on members. */
public final class LanguageTest {
    private static final String SOURCE = "src/main/java/MastPulpits.java";
    private static final String[] NEVER = {
        "package", "import", "throw", "throws", "try", "catch", "finally", "synchronized", "assert", "native",
        "volatile", "protected", "var", "Object", "Thread", "Class", "Random", "Character", "Double", "Boolean",
        "equals", "hashCode", "toString", "currentTimeMillis", "nanoTime", "getenv", "out", "err"};
    private static final List<String> LIBRARY = List.of("Math.max", "Math.min", "Long.bitCount");
    private static final Pattern LIBRARY_CALL = Pattern.compile("\\b(Math|Long|Integer|System|Arrays|List)\\.\\w+");
    private static final Pattern METHOD_HEAD = Pattern.compile("( +)(?:\\w+ )*[\\w\\[\\]]+ \\w+\\(.*\\) \\{");
    private static final Pattern LOOP = Pattern.compile("\\b(for|while|do)\\b");
    private static final int LONGEST_METHOD = 60, MOST_PARAMETERS = 7;
    private static final Due DUE = new Due();

    public static void main(String[] args) throws IOException {
        String source = Files.readString(Path.of(SOURCE));
        String code = withoutComments(source);
        signs(source);
        words(code);
        library(code);
        madeWithTheObject(code);
        indices(code);
        loops(code);
        methods(source.split("\n"));
        parameters(MastPulpits.class);
        for (Class<?> inside : MastPulpits.class.getDeclaredClasses()) {
            parameters(inside);
        }
        DUE.end();
    }

    private static String withoutComments(String source) {
        return source.replaceAll("(?s)/\\*.*?\\*/", " ").replaceAll("//[^\n]*", " ");
    }

    private static void signs(String source) {
        for (int i = 0; i < source.length(); i++) {
            char sign = source.charAt(i);
            if (sign != '\n' && (sign < 32 || sign > 126)) {
                DUE.is("the sign at " + i, sign, ' ');
            }
        }
    }

    /** Rules 2, 3, 6 and 13. */
    private static void words(String code) {
        for (String word : NEVER) {
            DUE.is("the word " + word, times(code, "\\b" + word + "\\b"), 0);
        }
        DUE.is("lambdas", times(code, "->"), 0);
        DUE.is("method references", times(code, "::"), 0);
        DUE.is("catch of what may be thrown", times(code, "Exception|Error|Throwable"), 0);
        DUE.is("classes in this file", times(code, "\\b(class|enum|record|interface) \\w+") <= 12 ? 1 : 0, 1);
    }

    /** Rule 4, as far as the class has need of it. */
    private static void library(String code) {
        Matcher calls = LIBRARY_CALL.matcher(code);
        while (calls.find()) {
            DUE.is(calls.group() + " is of the library", LIBRARY.contains(calls.group()) ? 1 : 0, 1);
        }
    }

    /** All calls of a run live in one room: nothing is made but in the fields of an object. */
    private static void madeWithTheObject(String code) {
        for (String line : code.split("\n")) {
            if (line.contains("new ")) {
                DUE.is("made with the object: " + line.trim(), line.matches(" *(private )?final .* = .*;") ? 1 : 0, 1);
            }
        }
    }

    /** Rule 7: an index is looked at before it is used, so none is a number that is simply written there. */
    private static void indices(String code) {
        DUE.is("indices that nothing looked at", times(code, "(?<!new int)\\[\\d"), 0);
    }

    /** Rule 9: a counter against a bound stands in the head of every loop. */
    private static void loops(String code) {
        for (String line : code.split("\n")) {
            if (LOOP.matcher(line).find()) {
                boolean counts = line.matches(" *for \\(int \\w+ = .*; .*[<>].*; \\w+(\\+\\+|--)\\) \\{");
                DUE.is("the end is seen: " + line.trim(), counts ? 1 : 0, 1);
            }
        }
    }

    /** Rule 11: a method ends by the first line that closes it on its own depth. */
    private static void methods(String[] lines) {
        for (int first = 0; first < lines.length; first++) {
            Matcher head = METHOD_HEAD.matcher(lines[first]);
            if (head.matches() && head.group(1).length() <= 8 && !lines[first].trim().startsWith("for")) {
                int last = Arrays.asList(lines).subList(first, lines.length).indexOf(head.group(1) + "}");
                DUE.is("short: " + lines[first].trim(), last > 0 && last < LONGEST_METHOD ? 1 : 0, 1);
            }
        }
    }

    private static void parameters(Class<?> one) {
        for (Method method : one.getDeclaredMethods()) {
            DUE.is("parameters of " + method, method.getParameterCount() <= MOST_PARAMETERS ? 1 : 0, 1);
        }
    }

    private static int times(String code, String pattern) {
        int times = 0;
        Matcher matcher = Pattern.compile(pattern).matcher(code);
        while (matcher.find()) {
            times++;
        }
        return times;
    }
}
