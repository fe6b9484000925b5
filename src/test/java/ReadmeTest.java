import java.io.IOException;
import java.lang.reflect.InvocationTargetException;
import java.lang.reflect.Method;
import java.lang.reflect.Modifier;
import java.nio.file.DirectoryStream;
import java.nio.file.Files;
import java.nio.file.Path;
import java.util.ArrayList;
import java.util.List;
import java.util.Map;
import java.util.TreeMap;
import java.util.TreeSet;
import java.util.regex.Matcher;
import java.util.regex.Pattern;

/** Makes the calls that README.md shows as examples of use; each answers as README.md says. */
public final class ReadmeTest {
    private static final Check CHECK = new Check("ReadmeTest");
    private static final Path README = Path.of("README.md");
    private static final Path DOCUMENT = Path.of("../shared/DOC.md");
    private static final Path TESTS = Path.of("src/test/java");
    private static final String NEW_OBJECT = "DifferenceFamilies x = new DifferenceFamilies();";
    private static final String VALUE = "(?:-?\\d+|'[ -~]')";
    private static final String VALUES = "((?:" + VALUE + "(?:, " + VALUE + ")*)?)";
    private static final Pattern CALL =
            Pattern.compile("x\\.(\\w+)\\(" + VALUES + "\\); +// (-?\\d+|[A-Z_]+)(?:: .+)?");
    private static final Map<String, Long> CONSTANTS = Map.of(
            "BAD_VALUE", (long) DifferenceFamilies.BAD_VALUE, "FULL", (long) DifferenceFamilies.FULL,
            "NOT_POSSIBLE", (long) DifferenceFamilies.NOT_POSSIBLE, "NONE", (long) DifferenceFamilies.NONE);
    // Nothing is promised behind the 512th call.
    private static final int MOST_CALLS = 512;

    private final Map<String, Method> methods = new TreeMap<>();
    private final Map<String, Integer> promises = new TreeMap<>();
    private final TreeSet<String> shown = new TreeSet<>();
    private DifferenceFamilies x;
    private int calls;

    public static void main(String[] args) throws IOException {
        ReadmeTest test = new ReadmeTest();
        test.listMethods();
        test.listPromises();
        List<String> lines = Files.readAllLines(README);
        test.goThrough(lines);
        test.everyMethodIsShown();
        everyTestIsNamed(lines);
        CHECK.end();
    }

    private void listMethods() {
        for (Method method : DifferenceFamilies.class.getDeclaredMethods()) {
            if (Modifier.isPublic(method.getModifiers())) {
                methods.put(method.getName(), method);
            }
        }
    }

    private void listPromises() throws IOException {
        Matcher heading = Pattern.compile("(?m)^## Promise (\\d+): (\\w+)$").matcher(Files.readString(DOCUMENT));
        while (heading.find()) {
            promises.put(heading.group(2), Integer.parseInt(heading.group(1)));
        }
    }

    private void goThrough(List<String> lines) {
        boolean isExample = false;
        for (int i = 0; i < lines.size(); i++) {
            String line = lines.get(i);
            String place = "README.md, line " + (i + 1) + ": ";
            if (line.startsWith("```")) {
                CHECK.holds(place + "a fence begins or ends an example in Java", line.equals(isExample ? "```" : "```java"));
                isExample = !isExample;
                x = null;
            } else if (isExample) {
                goThroughLine(line, place);
            }
        }
        CHECK.holds("the last example has an end", !isExample);
    }

    private void goThroughLine(String line, String place) {
        if (line.equals(NEW_OBJECT)) {
            x = new DifferenceFamilies();
            calls = 0;
            return;
        }
        Matcher call = CALL.matcher(line);
        boolean isCall = call.matches() && x != null && methods.containsKey(call.group(1));
        CHECK.holds(place + "a call of an object, with its answer: " + line, isCall);
        if (isCall) {
            makeCall(methods.get(call.group(1)), call.group(2), answer(call.group(3), place), place);
        }
    }

    private static long answer(String word, String place) {
        if (!Character.isUpperCase(word.charAt(0))) {
            return Long.parseLong(word);
        }
        CHECK.holds(place + "the constant " + word, CONSTANTS.containsKey(word));
        return CONSTANTS.getOrDefault(word, 0L);
    }

    private void makeCall(Method method, String words, long want, String place) {
        List<Integer> arguments = arguments(words);
        boolean areTheirs = arguments.size() == method.getParameterCount();
        CHECK.holds(place + "the arguments of " + method.getName() + ": " + words, areTheirs);
        calls++;
        CHECK.holds(place + "an example has at most 512 calls", calls <= MOST_CALLS);
        if (!areTheirs) {
            return;
        }
        shown.add(method.getName());
        try {
            long got = ((Number) method.invoke(x, arguments.toArray())).longValue();
            CHECK.due(promises.getOrDefault(method.getName(), 0), place + method.getName() + "(" + words + ")", got, want);
        } catch (IllegalAccessException | InvocationTargetException e) {
            CHECK.holds(place + "the call ends without " + e, false);
        }
    }

    private static List<Integer> arguments(String words) {
        List<Integer> values = new ArrayList<>();
        Matcher value = Pattern.compile(VALUE).matcher(words);
        while (value.find()) {
            String word = value.group();
            values.add(word.startsWith("'") ? word.charAt(1) : Integer.parseInt(word));
        }
        return values;
    }

    private void everyMethodIsShown() {
        for (String name : methods.keySet()) {
            CHECK.holds("README.md shows a call of " + name + "()", shown.contains(name));
        }
    }

    private static void everyTestIsNamed(List<String> lines) throws IOException {
        try (DirectoryStream<Path> files = Files.newDirectoryStream(TESTS, "*Test.java")) {
            for (Path file : files) {
                String name = file.getFileName().toString().replace(".java", "");
                boolean isNamed = lines.stream().anyMatch(line -> line.startsWith("| " + name + " | "));
                CHECK.holds("README.md names " + name, isNamed);
            }
        }
    }
}
