import java.lang.reflect.InvocationTargetException;
import java.lang.reflect.Method;
import java.util.regex.Matcher;
import java.util.regex.Pattern;

/** Runs calls that are written down with their answers, as in "flow(0, 1, 250) = 1; time() = 0", on a new object. */
final class Transcript {
    private static final Pattern STEP = Pattern.compile("(\\w+)\\(([^)]*)\\) = (-?\\d+)");

    private final Checks checks;

    Transcript(Checks checks) {
        this.checks = checks;
    }

    /** Returns how many calls were run. */
    int run(String words) {
        CoflowSimulator x = new CoflowSimulator();
        Matcher step = STEP.matcher(words);
        int many = 0;
        while (step.find()) {
            many++;
            checks.due("\"" + step.group() + "\"", call(x, step.group(1), step.group(2)), Long.parseLong(step.group(3)));
        }
        return many;
    }

    private static long call(CoflowSimulator x, String name, String arguments) {
        String[] words = arguments.isBlank() ? new String[0] : arguments.split(", *");
        for (Method method : CoflowSimulator.class.getMethods()) {
            if (method.getName().equals(name) && method.getParameterCount() == words.length) {
                return answer(x, method, words);
            }
        }
        throw new IllegalArgumentException("no call " + name + "(" + arguments + ")");
    }

    private static long answer(CoflowSimulator x, Method method, String[] words) {
        Object[] values = new Object[words.length];
        for (int i = 0; i < words.length; i++) {
            boolean asked = method.getParameterTypes()[i] == boolean.class;
            values[i] = asked ? (Object) Boolean.valueOf(words[i]) : (Object) Integer.valueOf(words[i]);
        }
        try {
            return ((Number) method.invoke(x, values)).longValue();
        } catch (IllegalAccessException | InvocationTargetException thrown) {
            throw new IllegalStateException(method + " threw", thrown);
        }
    }
}
