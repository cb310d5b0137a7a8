import java.io.File;
import java.io.IOException;
import java.lang.reflect.Field;
import java.lang.reflect.Method;
import java.lang.reflect.Modifier;
import java.nio.file.Files;
import java.nio.file.Path;
import java.util.regex.Matcher;
import java.util.regex.Pattern;

/** README.md: its example answers as it says, and it names every call, every constant and every test. */
public final class ReadmeTest {
    private static final Pattern EXAMPLE = Pattern.compile("sea\\.(\\w+)\\(([^)]*)\\); *// (-?\\d+): .+");
    private static final int SHORTEST_EXAMPLE = 20;
    private static final Due DUE = new Due();

    public static void main(String[] args) throws Exception {
        String page = Files.readString(Path.of("README.md"));
        example(page);
        names(page);
        tests(page);
        DUE.end();
    }

    private static void example(String page) throws ReflectiveOperationException {
        MastPulpits sea = new MastPulpits();
        int calls = 0;
        for (String line : page.split("\n")) {
            if (!line.startsWith("sea.")) {
                continue;
            }
            Matcher parts = EXAMPLE.matcher(line);
            boolean isCall = parts.matches();
            DUE.is(line + " is a call with its answer", isCall ? 1 : 0, 1);
            if (isCall) {
                long answer = answer(sea, parts.group(1), parts.group(2).split(", *"));
                DUE.is("README.md: " + line, answer, Long.parseLong(parts.group(3)));
                calls++;
            }
        }
        DUE.is("calls in the example", calls >= SHORTEST_EXAMPLE ? 1 : 0, 1);
    }

    private static long answer(MastPulpits sea, String name, String[] numbers) throws ReflectiveOperationException {
        for (Method method : MastPulpits.class.getMethods()) {
            if (!method.getName().equals(name)) {
                continue;
            }
            Class<?>[] types = method.getParameterTypes();
            Object[] values = new Object[types.length];
            for (int i = 0; i < types.length && i < numbers.length; i++) {
                values[i] = value(types[i], numbers[i]);
            }
            return ((Number) method.invoke(sea, values)).longValue();
        }
        throw new IllegalStateException("README.md calls what is no call: " + name);
    }

    private static Object value(Class<?> type, String word) {
        if (type == boolean.class) {
            return Boolean.parseBoolean(word);
        }
        return word.startsWith("'") ? (int) word.charAt(1) : Integer.parseInt(word);
    }

    private static void names(String page) {
        for (Method method : MastPulpits.class.getDeclaredMethods()) {
            if (Modifier.isPublic(method.getModifiers())) {
                named(page, method.getName());
            }
        }
        for (Field field : MastPulpits.class.getDeclaredFields()) {
            if (Modifier.isPublic(field.getModifiers())) {
                named(page, field.getName());
            }
        }
    }

    private static void tests(String page) throws IOException {
        String[] files = new File("src/test/java").list();
        if (files == null) {
            throw new IOException("the tests are not found from here");
        }
        for (String file : files) {
            if (file.endsWith("Test.java")) {
                named(page, file.substring(0, file.length() - ".java".length()));
            }
        }
    }

    private static void named(String page, String name) {
        DUE.is("README.md names " + name, page.contains("`" + name + "`") ? 1 : 0, 1);
    }
}
