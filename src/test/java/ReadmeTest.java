import java.io.IOException;
import java.lang.reflect.Field;
import java.lang.reflect.Method;
import java.lang.reflect.Modifier;
import java.nio.file.Files;
import java.nio.file.Path;
import java.util.List;
import java.util.regex.Matcher;
import java.util.regex.Pattern;

/** The examples of README.md answer what stands behind them, and it names every public member. */
public final class ReadmeTest {
    private static final String MADE = "CourseMonitor m = new CourseMonitor();";
    // m.name(argument);  // answer: why
    private static final Pattern CALL = Pattern.compile("m\\.(\\w+)\\((-?\\d*)\\);(?:\\s+// ([-\\w]+)(?:: .*)?)?");

    private static CourseMonitor m = new CourseMonitor();

    public static void main(String[] args) throws IOException, ReflectiveOperationException {
        List<String> lines = Files.readAllLines(Path.of("README.md"));
        boolean inExample = false;
        int examples = 0;
        for (String line : lines) {
            if (line.startsWith("```")) {
                inExample = line.equals("```java");
                examples += inExample ? 1 : 0;
            } else if (inExample && !line.isEmpty()) {
                example(line);
            }
        }
        Checks.due("there are examples", examples > 0, true);
        names(String.join("\n", lines));
        Checks.finish();
    }

    private static void example(String line) throws ReflectiveOperationException {
        Matcher call = CALL.matcher(line);
        if (line.equals(MADE)) {
            m = new CourseMonitor();
        } else if (call.matches()) {
            Object answer = answer(call.group(1), call.group(2));
            // A void call answers null, and has no answer behind it.
            Checks.due("README.md: " + line, String.valueOf(answer), String.valueOf(call.group(3)));
        } else {
            Checks.due("README.md: " + line + " can be read", false, true);
        }
    }

    private static Object answer(String name, String argument) throws ReflectiveOperationException {
        if (argument.isEmpty()) {
            return CourseMonitor.class.getMethod(name).invoke(m);
        }
        return CourseMonitor.class.getMethod(name, int.class).invoke(m, Integer.parseInt(argument));
    }

    private static void names(String text) {
        for (Method method : CourseMonitor.class.getDeclaredMethods()) {
            if (Modifier.isPublic(method.getModifiers())) {
                Checks.due("README.md names " + method, text.contains("`" + method.getName() + "("), true);
            }
        }
        for (Field field : CourseMonitor.class.getDeclaredFields()) {
            if (Modifier.isPublic(field.getModifiers())) {
                Checks.due("README.md names " + field, text.contains("`" + field.getName() + "` ("), true);
            }
        }
    }
}
