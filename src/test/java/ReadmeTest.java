import java.io.IOException;
import java.lang.reflect.Method;
import java.lang.reflect.Modifier;
import java.nio.file.Files;
import java.nio.file.Path;
import java.util.ArrayList;
import java.util.List;
import java.util.Map;
import java.util.Set;
import java.util.TreeMap;
import java.util.TreeSet;
import java.util.regex.Matcher;
import java.util.regex.Pattern;
import java.util.stream.Stream;

/** README.md: each answer that it shows is the one that the class gives, and its tables leave nothing out. */
final class ReadmeTest {
    private static final Path PAGE = Path.of("README.md");
    private static final Path DOCUMENT = Path.of("../shared/DOC.md");
    private static final Path TESTS = Path.of("src/test/java");
    private static final int PROMISED_CALLS = 512;

    private static final Pattern EXAMPLE = Pattern.compile("(?ms)^```java\n(.*?)^```");
    private static final String MADE = "OneLampAllOut x = new OneLampAllOut();";
    private static final Pattern FED =
        Pattern.compile("for \\(char c : \"([^\"]*)\"\\.toCharArray\\(\\)\\) \\{ x\\.feed\\(c\\); \\}");
    private static final Pattern CALL = Pattern.compile("x\\.(\\w+)\\(([-\\d, ]*)\\);\\s+// (-?\\d+)\\b.*");
    private static final Pattern CALL_ROW =
        Pattern.compile("(?m)^\\| `(\\w+)\\(([^)]*)\\)` \\|([^|]*)\\|([^|]*)\\|([^|]*)\\|$");
    private static final Pattern PROMISE =
        Pattern.compile("(?m)^## Promise \\d+: (\\w+)\n\n`\\w+ \\w+\\(([^)]*)\\)`:(.*)$");
    private static final Pattern REFUSAL = Pattern.compile("-[1-6](?!\\d)");
    private static final Pattern TEST_ROW = Pattern.compile("(?m)^\\| (\\w+Test) \\|");

    private ReadmeTest() {
    }

    public static void main(String[] args) throws IOException, ReflectiveOperationException {
        String page = Files.readString(PAGE);
        Set<String> shown = examples(page);
        Check.same("calls that are shown", shown.toString(), new TreeSet<>(face().keySet()).toString());
        callTable(page, Files.readString(DOCUMENT));
        testTable(page);
        Check.close("ReadmeTest");
    }

    private static Map<String, Method> face() {
        Map<String, Method> face = new TreeMap<>();
        for (Method method : OneLampAllOut.class.getDeclaredMethods()) {
            if (Modifier.isPublic(method.getModifiers())) {
                face.put(method.getName(), method);
            }
        }
        return face;
    }

    /** Runs all examples: which calls they show. */
    private static Set<String> examples(String page) throws ReflectiveOperationException {
        Set<String> shown = new TreeSet<>();
        Matcher example = EXAMPLE.matcher(page);
        int examples = 0;
        while (example.find()) {
            examples++;
            example(example.group(1), shown);
        }
        Check.due("examples are there", examples > 0 ? 1 : 0, 1);
        return shown;
    }

    // A line that is of no known form would not be tried, so it counts as wrong.
    private static void example(String lines, Set<String> shown) throws ReflectiveOperationException {
        OneLampAllOut x = null;
        int calls = 0;
        for (String line : lines.split("\n")) {
            Matcher fed = FED.matcher(line);
            Matcher call = CALL.matcher(line);
            if (line.equals(MADE)) {
                x = new OneLampAllOut();
            } else if (x != null && fed.matches()) {
                calls += feed(x, fed.group(1));
                shown.add("feed");
            } else if (x != null && call.matches()) {
                calls++;
                shown.add(call.group(1));
                Check.due(line, answer(x, call.group(1), call.group(2)), Long.parseLong(call.group(3)));
            } else {
                Check.same("a line of an example", line, "a call with its answer");
            }
        }
        Check.due("calls of an example are promised", calls <= PROMISED_CALLS ? 1 : 0, 1);
    }

    private static int feed(OneLampAllOut x, String text) {
        for (int i = 0; i < text.length(); i++) {
            Check.due("feed of " + text, x.feed(text.charAt(i)), i + 1);
        }
        return text.length();
    }

    private static long answer(OneLampAllOut x, String name, String numbers) throws ReflectiveOperationException {
        List<Object> given = new ArrayList<>();
        for (String number : numbers.isBlank() ? new String[0] : numbers.split(", ")) {
            given.add(Integer.parseInt(number));
        }
        Method method = face().get(name);
        if (method == null || method.getParameterCount() != given.size()) {
            Check.same("a call", name + "(" + numbers + ")", "one of the face");
            return Long.MIN_VALUE;
        }
        return ((Number) method.invoke(x, given.toArray())).longValue();
    }

    /** Each call has one row, with the names and the refusals that the document has, in its order. */
    private static void callTable(String page, String document) {
        Map<String, String> rows = new TreeMap<>();
        Matcher row = CALL_ROW.matcher(page);
        while (row.find()) {
            String name = row.group(1);
            Check.same("rows of " + name, rows.containsKey(name) ? "more" : "one", "one");
            rows.put(name, name + "(" + row.group(2) + ") " + refusalsIn(row.group(5)) + noneIn(row.group(4)));
        }
        Matcher promise = PROMISE.matcher(document);
        int promises = 0;
        while (promise.find()) {
            promises++;
            String name = promise.group(1);
            String words = promise.group(3);
            String names = promise.group(2).replace("int ", "");
            Check.same("row of " + name, rows.getOrDefault(name, "none"),
                name + "(" + names + ") " + refusalsIn(words) + noneIn(words));
        }
        Check.due("promises with a call", promises, face().size());
        Check.due("rows of calls", rows.size(), face().size());
    }

    // In count's row "-1 to -6" are REFUSALS that are told, not answers of it.
    private static String refusalsIn(String words) {
        String own = words.replaceAll("REFUSALS -1 (?:to|\\.\\.) -6", "");
        List<String> refusals = new ArrayList<>();
        Matcher refusal = REFUSAL.matcher(own);
        while (refusal.find()) {
            refusals.add(refusal.group());
        }
        return refusals.toString();
    }

    private static String noneIn(String words) {
        return words.contains("-9") ? " or -9" : "";
    }

    private static void testTable(String page) throws IOException {
        Set<String> rows = new TreeSet<>();
        Matcher row = TEST_ROW.matcher(page);
        while (row.find()) {
            rows.add(row.group(1));
        }
        Set<String> tests = new TreeSet<>();
        try (Stream<Path> files = Files.list(TESTS)) {
            files.map(file -> file.getFileName().toString()).filter(name -> name.endsWith("Test.java"))
                .forEach(name -> tests.add(name.replace(".java", "")));
        }
        Check.same("tests in the table", rows.toString(), tests.toString());
    }
}
