import java.io.IOException;
import java.nio.file.Files;
import java.nio.file.Path;
import java.util.LinkedHashMap;
import java.util.Map;
import java.util.Set;
import java.util.TreeSet;
import java.util.regex.Matcher;
import java.util.regex.Pattern;

/** The face of the class as ../shared/DOC.md tells it: its constants, and for each call its promise. */
final class Face {
    private static final Path SOURCE = Path.of("../shared/DOC.md");
    private static final Pattern CODE = Pattern.compile("\\b(NONE|BAD_INDEX|BAD_VALUE|BAD_STATE|FULL)\\b");
    private static final Pattern PROMISE = Pattern.compile("(?ms)^## Promise \\d+: (\\w+)\n\n`(\\w+) (\\w+\\([^`]*\\))`\n(.*?)(?=^## )");

    /** A call as its promise tells it. */
    record Call(String type, String signature, Set<String> codes, boolean undoable) {
        /** The call with the names of its arguments alone. */
        String withNames() {
            return signature.replaceAll("(int|boolean) ", "");
        }

        /** The method as FormTest finds it in the class. */
        String withTypes() {
            return type + " " + signature.replaceAll("(int|boolean) \\w+", "$1");
        }
    }

    final Map<String, Call> calls = new LinkedHashMap<>();
    final Map<String, Integer> constants = new LinkedHashMap<>();
    /** The lines of the code that tells the face, without those of the class, its constants and its constructor. */
    final Set<String> listed = new TreeSet<>();
    final String document;

    Face() throws IOException {
        document = Files.readString(SOURCE);
        Matcher promise = PROMISE.matcher(document);
        while (promise.find()) {
            calls.put(promise.group(1), new Call(promise.group(2), promise.group(3), codesIn(promise.group(4)),
                    promise.group(4).contains("Undoable.")));
        }
        String code = document.substring(document.indexOf("```java"), document.lastIndexOf("```"));
        Matcher constant = Pattern.compile("(\\w+) = (-\\d+)").matcher(code);
        while (constant.find()) {
            constants.put(constant.group(1), Integer.valueOf(constant.group(2)));
        }
        Matcher method = Pattern.compile("public (\\w+ \\w+\\([^)]*\\));").matcher(code);
        while (method.find()) {
            listed.add(method.group(1));
        }
    }

    static Set<String> codesIn(String words) {
        Set<String> codes = new TreeSet<>();
        Matcher code = CODE.matcher(words);
        while (code.find()) {
            codes.add(code.group());
        }
        return codes;
    }
}
