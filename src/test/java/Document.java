import java.io.IOException;
import java.nio.file.Files;
import java.nio.file.Path;
import java.util.ArrayList;
import java.util.List;
import java.util.Map;
import java.util.TreeMap;

/** The sentences of ../shared/DOC.md, by section, and which of their words a test has quoted. */
final class Document {
    /** The sections in front of the promises, which are numbered from 1; FormTest looks at the one of the face. */
    static final int WHAT_IT_IS = -1, DESCRIPTION = 0;
    private static final int ELSEWHERE = -2;
    private static final Path SOURCE = Path.of("../shared/DOC.md");
    /** Lines of the description that promise nothing; the examples are run by ExamplesTest. */
    private static final List<String> HEADINGS = List.of("Ports, groups and flows", "Undo, errors", "The constants:");

    private static final class Section {
        final StringBuilder words = new StringBuilder();
        boolean[] quoted;
    }

    private final Map<Integer, Section> sections = new TreeMap<>();

    Document() throws IOException {
        int number = ELSEWHERE;
        for (String line : Files.readAllLines(SOURCE)) {
            if (line.startsWith("## ")) {
                number = sectionOf(line);
            } else if (number != ELSEWHERE && isSentence(line.strip())) {
                String words = line.strip().replaceAll("^- ", "").replace("`", "").replaceAll("\\s+", " ");
                sections.computeIfAbsent(number, any -> new Section()).words.append(words).append(' ');
            }
        }
        for (Section section : sections.values()) {
            section.quoted = new boolean[section.words.length()];
        }
    }

    private static int sectionOf(String heading) {
        if (heading.equals("## What it is")) {
            return WHAT_IT_IS;
        }
        if (heading.equals("## Description")) {
            return DESCRIPTION;
        }
        return heading.startsWith("## Promise ") ? Integer.parseInt(heading.replaceAll("## Promise (\\d+):.*", "$1")) : ELSEWHERE;
    }

    private static boolean isSentence(String line) {
        boolean signature = line.startsWith("`");
        boolean example = line.startsWith("Examples:") || line.matches("\\d\\. .*");
        boolean guide = line.startsWith("----") || line.startsWith("The constructor and the methods follow");
        return !line.isEmpty() && !signature && !example && !guide && !HEADINGS.contains(line);
    }

    int sectionCount() {
        return sections.size();
    }

    /** Notes that a test quotes these words. Returns false if the section does not have them. */
    boolean quote(int number, String words) {
        Section section = sections.get(number);
        boolean found = false;
        if (section != null) {
            for (int at = section.words.indexOf(words); at >= 0; at = section.words.indexOf(words, at + 1)) {
                java.util.Arrays.fill(section.quoted, at, at + words.length(), true);
                found = true;
            }
        }
        return found;
    }

    /** The words that no test has quoted. */
    List<String> leftOver() {
        List<String> found = new ArrayList<>();
        sections.forEach((number, section) -> {
            StringBuilder run = new StringBuilder();
            for (int i = 0; i < section.quoted.length; i++) {
                if (!section.quoted[i]) {
                    run.append(section.words.charAt(i));
                }
                if (section.quoted[i] || i == section.quoted.length - 1) {
                    if (run.toString().matches(".*\\w.*")) {
                        found.add("section " + number + ": " + run.toString().strip());
                    }
                    run.setLength(0);
                }
            }
        });
        return found;
    }
}
