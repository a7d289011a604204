import java.io.IOException;
import java.lang.reflect.Method;
import java.lang.reflect.Modifier;
import java.nio.file.DirectoryStream;
import java.nio.file.Files;
import java.nio.file.Path;
import java.util.HashMap;
import java.util.List;
import java.util.Map;
import java.util.Set;
import java.util.TreeSet;
import java.util.regex.Matcher;
import java.util.regex.Pattern;

/** What README.md shows of calls and answers is so; it shows every call, and names every test. */
public final class ReadmeTest {
    private static final Check CHECK = new Check();
    private static final Path README = Path.of("README.md");
    private static final Pattern TEXT = Pattern.compile("for \\(char letter : \"(.*)\"\\.toCharArray\\(\\)\\) \\{");
    private static final Pattern CALL = Pattern.compile("rule\\.(\\w+)\\(([-0-9, ]*)\\); +// (-?\\d+|[A-Z]+): .+");
    private static final Map<String, Long> CONSTANTS = Map.of(
            "BAD", (long) FoldRule.BAD, "STATE", (long) FoldRule.STATE, "FULL", (long) FoldRule.FULL,
            "NONE", (long) FoldRule.NONE, "NO", (long) FoldRule.NO);

    private final Map<String, Method> face = new HashMap<>();
    private final Set<String> shown = new TreeSet<>();
    private FoldRule rule;
    private int calls;

    private ReadmeTest() {
        for (Method method : FoldRule.class.getDeclaredMethods()) {
            if (Modifier.isPublic(method.getModifiers())) {
                face.put(method.getName(), method);
            }
        }
    }

    public static void main(String[] args) throws IOException, ReflectiveOperationException {
        List<String> lines = Files.readAllLines(README);
        new ReadmeTest().examples(lines);
        constants(String.join(" ", lines));
        namesOfTests(lines);
        CHECK.finish();
    }

    private void examples(List<String> lines) throws ReflectiveOperationException {
        boolean inside = false;
        for (String line : lines) {
            if (line.startsWith("```")) {
                inside = line.equals("```java");
            } else if (inside) {
                example(line.strip());
            }
        }
        CHECK.holds("each call is shown: " + shown, shown.equals(new TreeSet<>(face.keySet())));
        CHECK.holds("the object is used for 512 calls at most: " + calls, calls <= 512);
    }

    private void example(String line) throws ReflectiveOperationException {
        Matcher text = TEXT.matcher(line);
        Matcher call = CALL.matcher(line);
        if (line.equals("FoldRule rule = new FoldRule();")) {
            rule = new FoldRule();
            calls = 0;
        } else if (text.matches()) {
            Check.typeAll(rule, text.group(1));
            calls += text.group(1).length();
        } else if (line.equals("rule.type(letter);")) {
            shown.add("type");
        } else if (call.matches()) {
            shown.add(call.group(1));
            calls++;
            CHECK.due(line, answer(call.group(1), call.group(2)), told(call.group(3)));
        } else {
            CHECK.holds("a line that can be held: " + line,
                    line.isEmpty() || line.equals("}") || line.startsWith("// "));
        }
    }

    private long answer(String name, String numbers) throws ReflectiveOperationException {
        String[] parts = numbers.isEmpty() ? new String[0] : numbers.split(", ");
        Object[] given = new Object[parts.length];
        for (int i = 0; i < parts.length; i++) {
            given[i] = Integer.valueOf(parts[i]);
        }
        return ((Number) face.get(name).invoke(rule, given)).longValue();
    }

    private static long told(String answer) {
        return CONSTANTS.containsKey(answer) ? CONSTANTS.get(answer) : Long.parseLong(answer);
    }

    private static void constants(String page) {
        for (Map.Entry<String, Long> constant : CONSTANTS.entrySet()) {
            String words = "`" + constant.getKey() + "` (" + constant.getValue();
            CHECK.holds("the page has " + words, page.contains(words));
        }
    }

    private static void namesOfTests(List<String> lines) throws IOException {
        Set<String> named = new TreeSet<>();
        for (String line : lines) {
            if (line.startsWith("| `")) {
                named.add(line.substring(3, line.indexOf('`', 3)) + ".java");
            }
        }
        Set<String> found = new TreeSet<>();
        try (DirectoryStream<Path> files = Files.newDirectoryStream(Path.of("src/test/java"), "*.java")) {
            files.forEach(file -> found.add(file.getFileName().toString()));
        }
        CHECK.holds("the table names the tests: " + named + ", they are " + found, named.equals(found));
    }
}
