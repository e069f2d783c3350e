import java.io.IOException;
import java.lang.reflect.InvocationTargetException;
import java.lang.reflect.Method;
import java.nio.charset.StandardCharsets;
import java.nio.file.Files;
import java.nio.file.Path;
import java.util.regex.Matcher;
import java.util.regex.Pattern;

/** That each call in README.md answers the number that stands behind it there. */
public final class ReadmeExample extends Asks {
    private static final Pattern LINE = Pattern.compile("steps\\.(\\w+)\\(([^)]*)\\);\\s*// (-?\\d+)\\b.*");
    private static final int LEAST_CALLS = 39;

    public static void main(String[] args) throws IOException, ReflectiveOperationException {
        FishSteps steps = new FishSteps();
        int calls = 0;
        of("README.md");
        for (String line : Files.readAllLines(Path.of("README.md"), StandardCharsets.UTF_8)) {
            if (!line.startsWith("steps.")) continue;
            Matcher found = LINE.matcher(line);
            if (!found.matches()) {
                due("a line that tells its answer: " + line, 0, 1);
                continue;
            }
            due(line, call(steps, found.group(1), found.group(2)), Integer.parseInt(found.group(3)));
            calls++;
        }
        due("calls told, at least " + LEAST_CALLS, Math.min(calls, LEAST_CALLS), LEAST_CALLS);
        end();
    }

    private static int call(FishSteps steps, String name, String told) throws ReflectiveOperationException {
        for (Method method : FishSteps.class.getMethods()) {
            if (method.getName().equals(name) && method.getReturnType() == int.class) {
                return (int) method.invoke(steps, numbers(method, told));
            }
        }
        throw new NoSuchMethodException(name);
    }

    private static Object[] numbers(Method method, String told) throws InvocationTargetException {
        String[] texts = told.isEmpty() ? new String[0] : told.split(", ");
        Class<?>[] types = method.getParameterTypes();
        if (texts.length != types.length) {
            throw new InvocationTargetException(null, method.getName() + " takes " + types.length + " numbers");
        }
        Object[] numbers = new Object[texts.length];
        for (int i = 0; i < texts.length; i++) {
            long v = Long.decode(texts[i].replace("L", ""));
            if (types[i] == long.class) numbers[i] = v;
            else numbers[i] = (int) v;
        }
        return numbers;
    }
}
