import java.io.IOException;
import java.util.regex.Matcher;
import java.util.regex.Pattern;

/** The document's four examples, run as ../shared/DOC.md tells them. */
public final class ExamplesTest {
    private static final Pattern EXAMPLE = Pattern.compile("(?m)^(\\d)\\. [^:]*: (.*)\\.$");
    /** How many calls each example has; a pattern that fits the document no more would find fewer. */
    private static final int[] CALLS = {9, 9, 7, 9};

    public static void main(String[] args) throws IOException {
        Checks checks = new Checks();
        Transcript transcript = new Transcript(checks);
        Matcher example = EXAMPLE.matcher(new Face().document);
        int examples = 0;
        while (example.find()) {
            examples++;
            checks.due("the number of example " + examples, Integer.parseInt(example.group(1)), examples);
            int steps = example.group(2).split("; ").length;
            checks.due("the calls of example " + examples, transcript.run(example.group(2)), steps);
            checks.due("the steps of example " + examples, steps, examples <= CALLS.length ? CALLS[examples - 1] : 0);
        }
        checks.due("the number of examples", examples, CALLS.length);
        checks.finish();
    }
}
