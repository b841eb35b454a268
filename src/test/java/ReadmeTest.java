import java.io.IOException;
import java.nio.file.Files;
import java.nio.file.Path;
import java.util.List;
import java.util.regex.Matcher;
import java.util.regex.Pattern;
import java.util.stream.Stream;

/** What README.md tells is true: each call that it shows is answered so, each test is named, and none that isn't there. */
public final class ReadmeTest {
    private static final Path README = Path.of("README.md");
    private static final Path TESTS = Path.of("src/test/java");
    private static final Pattern CALL = Pattern.compile("cuts\\.(\\w+)\\(([^)]*)\\); +// (-?\\d+)\\b.*");
    private static final Pattern TEST = Pattern.compile("`(\\w+Test)");

    private ReadmeTest() {
    }

    public static void main(String[] args) throws Exception {
        List<String> lines = Files.readAllLines(README);
        shownCalls(lines);
        namedTests(String.join("\n", lines));
        Nets.end();
    }

    private static void shownCalls(List<String> lines) throws Exception {
        FaceCuts cuts = new FaceCuts();
        int shown = 0;
        for (String line : lines) {
            Matcher call = CALL.matcher(line);
            if (call.matches()) {
                String[] numbers = call.group(2).isEmpty() ? new String[0] : call.group(2).split(", ");
                Nets.due(line, Calls.answer(cuts, call.group(1), numbers), Long.parseLong(call.group(3)));
                shown++;
            } else {
                Nets.due("shown without an answer: " + line, line.startsWith("cuts.") ? 1 : 0, 0);
            }
        }
        Nets.due("calls are shown: " + shown, shown > 10 ? 1 : 0, 1);
    }

    private static void namedTests(String text) throws IOException {
        try (Stream<Path> files = Files.list(TESTS)) {
            for (Path file : files.sorted().toList()) {
                String name = file.getFileName().toString().replace(".java", "");
                Nets.due("named: " + name, !name.endsWith("Test") || text.contains("`" + name) ? 1 : 0, 1);
            }
        }
        Matcher named = TEST.matcher(text);
        while (named.find()) {
            boolean there = Files.exists(TESTS.resolve(named.group(1) + ".java"));
            Nets.due("there is " + named.group(1), there ? 1 : 0, 1);
        }
    }
}
