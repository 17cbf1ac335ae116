import java.io.IOException;
import java.lang.reflect.InvocationTargetException;
import java.lang.reflect.Method;
import java.lang.reflect.Modifier;
import java.nio.file.DirectoryStream;
import java.nio.file.Files;
import java.nio.file.Path;
import java.util.HashMap;
import java.util.Map;
import java.util.Set;
import java.util.TreeSet;
import java.util.regex.Matcher;
import java.util.regex.Pattern;

/**
 * README.md tells each promise in the document's words, its example answers as it says and uses the whole face, and it
 * names every test; run from the project's root, as .ci/run does.
 */
public final class ReadmeTest {
    private static final Path README = Path.of("README.md");
    private static final Path DOCUMENT = Path.of("..", "shared", "DOC.md");
    private static final Path TESTS = Path.of("src", "test", "java");
    private static final int PROMISES = 22;

    private static final Pattern PROMISE =
        Pattern.compile("^## Promise (\\d+): [^\n]*\n+`([^`]*)`: ([^\n]*)$", Pattern.MULTILINE);
    private static final Pattern ROW =
        Pattern.compile("^\\| (\\d+) \\| `([^`]*)` \\| ([^|\n]*) \\| ([^|\n]*) \\|$", Pattern.MULTILINE);
    private static final Pattern EXAMPLE = Pattern.compile("```java\n(.*?)```", Pattern.DOTALL);
    private static final Pattern MADE = Pattern.compile("^OffsetRows (\\w+) = new OffsetRows\\((-?\\d+)\\);.*$");
    private static final Pattern CALL =
        Pattern.compile("^(\\w+)\\.(\\w+)\\(((?:-?\\d+|true|false|, )*)\\); +// ([^:]*)(: .*)?$");
    private static final String NOTHING = "nothing";

    private static int wrong = 0;

    private static void fault(String text) {
        wrong++;
        System.out.println(text);
    }

    private static String joined(String answer, String refused) {
        return refused.equals(NOTHING) ? answer : answer + " " + refused;
    }

    private static void checkPromises(String readme, String document) {
        Map<String, String> told = new HashMap<>();
        Matcher row = ROW.matcher(readme);
        while (row.find()) {
            told.put(row.group(1), row.group(2) + ": " + joined(row.group(3), row.group(4)));
        }
        int promises = 0;
        Matcher promise = PROMISE.matcher(document);
        while (promise.find()) {
            promises++;
            String due = promise.group(2) + ": " + promise.group(3);
            if (!due.equals(told.get(promise.group(1)))) {
                fault("promise " + promise.group(1) + " is told as: " + told.get(promise.group(1)) + "\n  due is: " + due);
            }
        }
        if (promises != PROMISES || told.size() != PROMISES) {
            fault("promises in the document: " + promises + ", in README.md: " + told.size() + ", due are " + PROMISES);
        }
    }

    private static Map<String, Method> face() {
        Map<String, Method> face = new HashMap<>();
        for (Method method : OffsetRows.class.getDeclaredMethods()) {
            if (Modifier.isPublic(method.getModifiers())) {
                face.put(method.getName(), method);
            }
        }
        return face;
    }

    private static Object[] arguments(Method method, String text) {
        Class<?>[] types = method.getParameterTypes();
        String[] words = text.isEmpty() ? new String[0] : text.split(", ");
        if (words.length != types.length) {
            throw new IllegalArgumentException(method.getName() + " takes " + types.length + " arguments");
        }
        Object[] arguments = new Object[types.length];
        for (int i = 0; i < types.length; i++) {
            if (types[i] == boolean.class) {
                arguments[i] = Boolean.valueOf(words[i]);
            } else {
                arguments[i] = Integer.valueOf(words[i]);
            }
        }
        return arguments;
    }

    private static String answer(OffsetRows x, Method method, Object[] arguments) throws IllegalAccessException {
        try {
            return String.valueOf(method.invoke(x, arguments));
        } catch (InvocationTargetException e) {
            return "throws " + e.getCause().getClass().getSimpleName();
        }
    }

    /** An answer that the example writes as a constant's name, as the number that it stands for. */
    private static String asNumber(String word) throws ReflectiveOperationException {
        return word.matches("[A-Z]+") ? String.valueOf(OffsetRows.class.getField(word).get(null)) : word;
    }

    private static void checkExample(String readme) throws ReflectiveOperationException {
        Map<String, Method> face = face();
        Set<String> unused = new TreeSet<>(face.keySet());
        Map<String, OffsetRows> objects = new HashMap<>();
        Matcher example = EXAMPLE.matcher(readme);
        while (example.find()) {
            for (String line : example.group(1).split("\n")) {
                Matcher made = MADE.matcher(line);
                Matcher call = CALL.matcher(line);
                if (made.matches()) {
                    objects.put(made.group(1), new OffsetRows(Integer.parseInt(made.group(2))));
                } else if (call.matches() && face.containsKey(call.group(2)) && objects.containsKey(call.group(1))) {
                    Method method = face.get(call.group(2));
                    String got = answer(objects.get(call.group(1)), method, arguments(method, call.group(3)));
                    unused.remove(call.group(2));
                    if (!got.equals(asNumber(call.group(4)))) {
                        fault("the example says " + line + "\n  answered " + got);
                    }
                } else if (!line.isEmpty()) {
                    fault("the example has a line that is no call: " + line);
                }
            }
        }
        if (!unused.isEmpty()) {
            fault("the example does not use " + unused);
        }
    }

    private static void checkTests(String readme) throws IOException {
        try (DirectoryStream<Path> tests = Files.newDirectoryStream(TESTS, "*.java")) {
            for (Path test : tests) {
                String name = test.getFileName().toString().replace(".java", "");
                if (!readme.contains("- `" + name + "`: ")) {
                    fault("README.md does not tell of the test " + name);
                }
            }
        }
        if (!readme.contains("\n.ci/run\n")) {
            fault("README.md does not tell how the tests are run");
        }
    }

    public static void main(String[] args) throws IOException, ReflectiveOperationException {
        String readme = Files.readString(README);
        checkPromises(readme, Files.readString(DOCUMENT));
        checkExample(readme);
        checkTests(readme);
        System.out.println(wrong == 0 ? "README.md tells what is so" : wrong + " faults");
        if (wrong != 0) {
            System.exit(1);
        }
    }
}
