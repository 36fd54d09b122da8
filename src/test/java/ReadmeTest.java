import java.nio.file.Files;
import java.nio.file.Path;
import java.util.Arrays;
import java.util.TreeSet;
import java.util.regex.Matcher;
import java.util.regex.Pattern;

/** What README.md shows is so: each call of its example answers what stands behind it, and no call is left out. */
public final class ReadmeTest {
    private static final Check check = new Check();
    private static final Pattern CALL = Pattern.compile("x\\.(\\w+)\\(([^)]*)\\);\\s*// (-?\\d+)\\b.*");

    public static void main(String[] args) throws Exception {
        String text = Files.readString(Path.of("README.md"));
        example(text);
        namesAllCalls(text);
        namesAllTests(text);
        check.end();
    }

    private static void example(String text) {
        String block = text.substring(text.indexOf("```java") + 7);
        block = block.substring(0, block.indexOf("```"));
        WhyNots x = new WhyNots();
        int calls = 0;
        for (String line : block.strip().split("\n")) {
            Matcher call = CALL.matcher(line);
            if (call.matches()) {
                int[] numbers = Arrays.stream(call.group(2).split(", ")).filter(one -> !one.isEmpty())
                        .mapToInt(Integer::parseInt).toArray();
                check.due(line, Call.on(x, call.group(1), numbers), Integer.parseInt(call.group(3)));
                calls++;
            } else {
                check.holds("a call with its answer: " + line, line.equals("WhyNots x = new WhyNots();"));
            }
        }
        check.holds("the example has calls", calls > 10);
    }

    private static void namesAllCalls(String text) {
        TreeSet<String> names = new TreeSet<>();
        for (var method : WhyNots.class.getMethods()) {
            if (method.getDeclaringClass() == WhyNots.class) {
                names.add(method.getName());
            }
        }
        check.due("calls", names.size(), 23);
        for (String name : names) {
            check.holds("README.md tells of " + name, text.contains("`" + name + "("));
        }
    }

    private static void namesAllTests(String text) throws Exception {
        try (var files = Files.list(Path.of("src/test/java"))) {
            for (Path file : files.toList()) {
                String name = file.getFileName().toString().replace(".java", "");
                check.holds("README.md tells of " + name, !name.endsWith("Test") || text.contains("`" + name + "`"));
            }
        }
    }
}
