import java.io.IOException;
import java.nio.file.Files;
import java.nio.file.Path;
import java.util.Arrays;
import java.util.List;
import java.util.Set;
import java.util.TreeSet;
import java.util.regex.Matcher;
import java.util.regex.Pattern;
import java.util.stream.Collectors;
import java.util.stream.Stream;

/** What README.md says is so: its example answers what is written there, and its lists have every call and test. */
public final class ReadmeTest {
    private static final Pattern EXAMPLE = Pattern.compile("x\\.(\\w+)\\(([\\d, ]*)\\); +//(?: = (\\w+))?.*");
    private static final Pattern CALL = Pattern.compile("\\| `(\\w+)\\(([\\w, ]*)\\)` \\|.*");
    private static final Pattern TEST = Pattern.compile("- `(\\w+)`:.*");

    private ReadmeTest() {
    }

    /** Runs in the directory that has README.md. */
    public static void main(String[] arguments) throws IOException {
        List<String> lines = Files.readAllLines(Path.of("README.md"));
        example(lines);
        calls(lines);
        tests(lines);
        Expect.end("ReadmeTest");
    }

    private static void example(List<String> lines) {
        int begin = lines.indexOf("```java");
        List<String> block = lines.subList(begin + 1, begin + lines.subList(begin, lines.size()).indexOf("```"));
        Expect.due("the example's first line", block.get(0), "SymbolicChecker x = new SymbolicChecker();");
        Twin twin = new Twin("README.md");
        for (String line : block.subList(1, block.size())) {
            Matcher parts = EXAMPLE.matcher(line);
            if (!parts.matches()) {
                Expect.fail("README.md: no call with a comment: " + line);
                continue;
            }
            String name = parts.group(1);
            String due = twin.ask(name, numbers(parts.group(2)));
            Expect.due("README.md: " + name, parts.group(3) == null ? "null" : parts.group(3), due);
        }
    }

    private static int[] numbers(String written) {
        return Arrays.stream(written.split(", ")).mapToInt(Integer::parseInt).toArray();
    }

    private static void calls(List<String> lines) {
        Set<String> due = new TreeSet<>();
        for (Signature call : Signature.ALL) {
            due.add(call.name() + " with " + call.kinds().length);
        }
        Set<String> listed = new TreeSet<>();
        for (String line : lines) {
            Matcher parts = CALL.matcher(line);
            if (parts.matches()) {
                String given = parts.group(2);
                listed.add(parts.group(1) + " with " + (given.isEmpty() ? 0 : given.split(", ").length));
            }
        }
        Expect.due("README.md: the calls", listed.toString(), due.toString());
    }

    private static void tests(List<String> lines) throws IOException {
        Set<String> listed = new TreeSet<>();
        for (String line : lines) {
            Matcher parts = TEST.matcher(line);
            if (parts.matches()) {
                listed.add(parts.group(1) + ".java");
            }
        }
        try (Stream<Path> files = Files.list(Path.of("src/test/java"))) {
            Set<String> due = files.map(file -> file.getFileName().toString())
                .filter(name -> name.endsWith("Test.java"))
                .collect(Collectors.toCollection(TreeSet::new));
            Expect.due("README.md: the tests", listed.toString(), due.toString());
        }
    }
}
