import java.io.IOException;
import java.nio.file.Files;
import java.nio.file.Path;
import java.util.LinkedHashMap;
import java.util.Map;
import java.util.TreeSet;
import java.util.regex.Matcher;
import java.util.regex.Pattern;

/** README.md tells each call and each code as the document does, its example is right, and it names every test. */
public final class ReadmeTest {
    private static final Path README = Path.of("README.md");
    private static final Path TESTS = Path.of("src/test/java");
    private static final Pattern ROW = Pattern.compile("(?m)^\\| `(\\w+)(\\([^`]*\\))` \\|(.*)\\|([^|]*)\\|([^|]*)\\|$");
    private static final Pattern STEP = Pattern.compile("(?m)^x\\.(\\w+\\([^)]*\\)); *// (= -?\\d+)");

    private final Checks checks = new Checks();
    private final Face face = new Face();
    private final String readme = Files.readString(README);

    private ReadmeTest() throws IOException {
    }

    public static void main(String[] args) throws IOException {
        ReadmeTest test = new ReadmeTest();
        test.calls();
        test.codes();
        test.example();
        test.tests();
        test.checks.finish();
    }

    private void must(String what, boolean holds) {
        checks.due("README.md: " + what, holds ? 1 : 0, 1);
    }

    private void calls() {
        Map<String, String> told = new LinkedHashMap<>();
        Matcher row = ROW.matcher(readme);
        while (row.find()) {
            String name = row.group(1);
            Face.Call call = face.calls.get(name);
            must(name + " is told once", told.put(name, row.group()) == null);
            must(name + " is a call of the document", call != null);
            if (call != null) {
                must("the arguments of " + name, call.withNames().equals(name + row.group(2)));
                must("the codes of " + name, call.codes().equals(Face.codesIn(row.group(4))));
                must("the undo of " + name, row.group(5).strip().equals(call.undoable() ? "yes" : ""));
            }
        }
        must("all calls, not " + told.keySet(), new TreeSet<>(told.keySet()).equals(new TreeSet<>(face.calls.keySet())));
    }

    private void codes() {
        face.constants.forEach((name, value) ->
                must(name + " is " + value, readme.contains("| `" + name + "` | " + value + " |")));
    }

    private void example() {
        StringBuilder steps = new StringBuilder();
        Matcher step = STEP.matcher(readme);
        while (step.find()) {
            steps.append(step.group(1)).append(' ').append(step.group(2)).append("; ");
        }
        long lines = readme.lines().filter(line -> line.startsWith("x.")).count();
        checks.due("README.md: the steps of its example", new Transcript(checks).run(steps.toString()), lines);
        must("it has an example", lines > 0);
    }

    private void tests() throws IOException {
        try (var files = Files.newDirectoryStream(TESTS, "*Test.java")) {
            for (Path file : files) {
                String name = file.getFileName().toString().replace(".java", "");
                must("what " + name + " looks at", readme.contains("`" + name + "`"));
            }
        }
    }
}
