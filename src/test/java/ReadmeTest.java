import java.io.IOException;
import java.lang.reflect.InvocationTargetException;
import java.lang.reflect.Method;
import java.lang.reflect.Modifier;
import java.nio.file.Files;
import java.nio.file.Path;
import java.util.List;
import java.util.TreeSet;
import java.util.regex.Matcher;
import java.util.regex.Pattern;

/** Each example of README.md answers as it says, and each call of the face has an example and a row there. */
public final class ReadmeTest {
    private static final Check CHECK = new Check("README.md");

    private static final Pattern MADE = Pattern.compile("BerthPlan quay = new BerthPlan\\((-?\\d+)\\);");
    /** A call and its answer; a remark may stand behind a colon. */
    private static final Pattern CALL = Pattern.compile("quay\\.((\\w+)\\(([^()]*)\\)); *// ([^:]+?)(?:: .*)?");

    private static final TreeSet<String> SHOWN = new TreeSet<>();

    public static void main(String[] args) throws IOException {
        List<String> lines = Files.readAllLines(Path.of("README.md"));
        examples(lines);
        eachCallIsShown(lines);
        CHECK.end();
    }

    private static void examples(List<String> lines) {
        boolean inExample = false;
        BerthPlan quay = null;
        for (String line : lines) {
            if (line.startsWith("```")) {
                inExample = line.equals("```java");
                quay = null;
            } else if (inExample) {
                quay = example(line, quay);
            }
        }
    }

    /** Looks at one line: the quay that the next line calls. */
    private static BerthPlan example(String line, BerthPlan quay) {
        Matcher made = MADE.matcher(line);
        if (made.matches()) {
            return new BerthPlan(Integer.parseInt(made.group(1)));
        }
        Matcher call = CALL.matcher(line);
        boolean isCall = call.matches() && quay != null;
        CHECK.due("a line that makes a quay or calls it: " + line, isCall, true);
        if (isCall) {
            SHOWN.add(call.group(2));
            CHECK.dueText(call.group(1), answer(quay, call.group(2), call.group(3)), call.group(4));
        }
        return quay;
    }

    private static String answer(BerthPlan quay, String name, String written) {
        String[] words = written.isEmpty() ? new String[0] : written.split(", ");
        try {
            Method method = methodOf(name);
            return method == null ? "no such call" : String.valueOf(method.invoke(quay, arguments(words)));
        } catch (InvocationTargetException e) {
            return "throws " + e.getCause().getClass().getSimpleName();
        } catch (IllegalAccessException | IllegalArgumentException e) {
            return "not to be called so";
        }
    }

    private static Object[] arguments(String[] words) {
        Object[] arguments = new Object[words.length];
        for (int i = 0; i < words.length; i++) {
            boolean isTruth = words[i].equals("true") || words[i].equals("false");
            arguments[i] = isTruth ? (Object) Boolean.valueOf(words[i]) : (Object) Integer.valueOf(words[i]);
        }
        return arguments;
    }

    private static Method methodOf(String name) {
        for (Method method : BerthPlan.class.getDeclaredMethods()) {
            if (Modifier.isPublic(method.getModifiers()) && method.getName().equals(name)) {
                return method;
            }
        }
        return null;
    }

    private static void eachCallIsShown(List<String> lines) {
        for (Method method : BerthPlan.class.getDeclaredMethods()) {
            if (Modifier.isPublic(method.getModifiers())) {
                String name = method.getName();
                CHECK.due("an example of " + name, SHOWN.contains(name), true);
                CHECK.due("rows of " + name, rowsOf(method, lines), 1);
            }
        }
    }

    /** Rows that tell the call with as many parameters as it has and name its exceptions in their order. */
    private static int rowsOf(Method method, List<String> lines) {
        int parameters = method.getParameterCount();
        String written = parameters == 0 ? "" : "\\w+(, \\w+){" + (parameters - 1) + "}";
        StringBuilder row = new StringBuilder("\\| `" + method.getName() + "\\(" + written + "\\)` \\|[^`]*");
        for (Class<?> exception : method.getExceptionTypes()) {
            row.append("`").append(exception.getSimpleName()).append("`[^`]*");
        }
        Pattern due = Pattern.compile(row.toString());
        return (int) lines.stream().filter(line -> due.matcher(line).matches()).count();
    }
}
