import java.io.IOException;
import java.lang.reflect.Constructor;
import java.lang.reflect.Field;
import java.lang.reflect.Method;
import java.lang.reflect.Modifier;
import java.nio.file.Files;
import java.nio.file.Path;
import java.util.Set;
import java.util.TreeSet;
import java.util.regex.Matcher;
import java.util.regex.Pattern;

/** The face of the class, and those rules of ../shared/LANGUAGE.md that can be seen from its text and its members. */
public final class FormTest {
    private static final Path SOURCE = Path.of("src/main/java/CoflowSimulator.java");

    private static Face told;
    private static int checked = 0;
    private static int wrong = 0;

    public static void main(String[] args) throws IOException {
        told = new Face();
        listing();
        face();
        for (Class<?> inside : CoflowSimulator.class.getDeclaredClasses()) {
            classInside(inside);
        }
        String code = withoutComments(Files.readString(SOURCE));
        words(code);
        methodLengths(code);
        System.out.println(checked + " rules looked at, " + wrong + " broken");
        if (wrong > 0) {
            System.exit(1);
        }
    }

    private static void must(boolean holds, String rule) {
        checked++;
        if (!holds) {
            wrong++;
            System.out.println("broken: " + rule);
        }
    }

    /** The document lists the face twice: as code, and promise by promise. */
    private static void listing() {
        must(told.calls.size() == 37 && told.constants.size() == 5, "the document's face is found");
        Set<String> promised = new TreeSet<>();
        for (Face.Call call : told.calls.values()) {
            promised.add(call.type() + " " + call.signature());
        }
        must(promised.equals(told.listed), "the face as code and the promises: " + promised + ", " + told.listed);
    }

    private static void face() {
        Class<?> face = CoflowSimulator.class;
        must(face.getModifiers() == (Modifier.PUBLIC | Modifier.FINAL), "rule 1: public and final");
        must(face.getDeclaredClasses().length <= 11, "rule 11: some twelve classes");
        Set<String> methods = new TreeSet<>();
        for (Method method : face.getDeclaredMethods()) {
            if (Modifier.isPublic(method.getModifiers())) {
                must(method.getModifiers() == Modifier.PUBLIC, "rule 1: " + method + " is public alone");
                methods.add(method.toString().replaceAll("^public |CoflowSimulator\\.", "").replace(",", ", "));
            } else {
                must(Modifier.isPrivate(method.getModifiers()), "rule 1: " + method + " is private");
                must(!told.calls.containsKey(method.getName()), "rule 1: the name of " + method);
            }
        }
        Set<String> due = new TreeSet<>();
        told.calls.values().forEach(call -> due.add(call.withTypes()));
        must(methods.equals(due), "rule 1: the methods of the face, not " + methods);
        Constructor<?>[] constructors = face.getDeclaredConstructors();
        must(constructors.length == 1 && constructors[0].getModifiers() == Modifier.PUBLIC
                && constructors[0].getParameterCount() == 0, "rule 1: one public constructor");
        int own = 0;
        int constants = 0;
        for (Field field : face.getDeclaredFields()) {
            boolean constant = told.constants.containsKey(field.getName());
            must(Modifier.isPrivate(field.getModifiers()) != constant, "rule 1: " + field + " is private or a constant");
            must(!constant || isAsTold(field), "rule 1: " + field + " is a public constant with the document's value");
            staticsAreFinal(field);
            own += Modifier.isStatic(field.getModifiers()) ? 0 : 1;
            constants += constant ? 1 : 0;
        }
        must(constants == told.constants.size(), "rule 1: all constants of the face");
        must(own <= 20, "rule 11: some twenty fields");
    }

    private static boolean isAsTold(Field field) {
        try {
            return field.getModifiers() == (Modifier.PUBLIC | Modifier.STATIC | Modifier.FINAL) && field.getType() == int.class
                    && field.getInt(null) == told.constants.get(field.getName());
        } catch (IllegalAccessException hidden) {
            return false;
        }
    }

    private static void staticsAreFinal(Field field) {
        if (Modifier.isStatic(field.getModifiers())) {
            must(Modifier.isFinal(field.getModifiers()), "rule 5: " + field + " is final");
            must(Set.of(int.class, long.class, boolean.class, char.class, String.class, int[].class).contains(field.getType()),
                    "rule 5: the type of " + field);
        }
    }

    private static void classInside(Class<?> inside) {
        must(Modifier.isStatic(inside.getModifiers()), "rule 2: " + inside + " is static");
        must(!Modifier.isPublic(inside.getModifiers()) && !Modifier.isProtected(inside.getModifiers()),
                "rule 1: " + inside + " is not public");
        must(inside.getDeclaredClasses().length == 0, "rule 2: " + inside + " has no class inside");
        for (Method method : inside.getDeclaredMethods()) {
            must(!told.calls.containsKey(method.getName()), "rule 1: the name of " + method);
            must(method.getParameterCount() <= 7, "rule 11: the parameters of " + method);
        }
        int own = 0;
        for (Field field : inside.getDeclaredFields()) {
            staticsAreFinal(field);
            own += Modifier.isStatic(field.getModifiers()) ? 0 : 1;
        }
        must(own <= 20, "rule 11: the fields of " + inside);
    }

    private static String withoutComments(String source) {
        return source.replaceAll("(?s)/\\*.*?\\*/", "").replaceAll("//[^\n]*", "");
    }

    private static void words(String code) {
        String[] never = {"throw", "throws", "try", "catch", "finally", "synchronized", "assert", "var", "hashCode", "toString",
            "Object", "Exception", "Error", "Random", "Thread", "currentTimeMillis", "nanoTime", "volatile", "native", "float",
            "double", "getClass", "stream"};
        for (String word : never) {
            must(!Pattern.compile("\\b" + word + "\\b").matcher(code).find(), "rules 3, 4, 6, 13: no " + word);
        }
        must(!code.contains("->"), "rule 2: no lambda");
        must(!code.contains("::"), "rule 2: no method reference");
        must(!Pattern.compile("Exact\\b").matcher(code).find(), "rule 4: no function whose name ends in Exact");
        must(!Pattern.compile("while\\s*\\(\\s*true|for\\s*\\(\\s*;\\s*;").matcher(code).find(), "rule 9: loops have an end");
        Matcher imports = Pattern.compile("import ([^;]*);").matcher(code);
        while (imports.find()) {
            must(imports.group(1).equals("java.util.Arrays"), "rule 4: import " + imports.group(1));
        }
        Matcher calls = Pattern.compile("\\b(Math|System|Arrays|Integer|Long)\\.(\\w+)").matcher(code);
        while (calls.find()) {
            must(Set.of("Math.max", "Math.min", "Math.floorMod", "System.arraycopy", "Arrays.fill").contains(calls.group()),
                    "rule 4: " + calls.group());
        }
    }

    /** Counts the lines of each method, by the indents of this project. */
    private static void methodLengths(String code) {
        Matcher methods = Pattern.compile("(?ms)^( {4}| {8})(?! )[^\n=]*\\([^\n;]*\\)[^\n;]*\\{\n(.*?)^\\1\\}").matcher(code);
        int found = 0;
        while (methods.find()) {
            found++;
            long lines = methods.group(2).lines().count();
            must(lines <= 60, "rule 11: a method of " + lines + " lines: " + methods.group().lines().findFirst().get());
        }
        must(found > 80, "the methods are found by their indents, " + found);
    }
}
