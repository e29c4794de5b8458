import java.lang.reflect.Method;
import java.lang.reflect.Modifier;
import java.nio.file.Files;
import java.nio.file.Path;
import java.util.regex.Matcher;
import java.util.regex.Pattern;

/** The example on the README's page: each call there answers what stands behind it, and each method is told of. */
public final class ReadmeTest extends Checks {
    private static final Pattern LINE = Pattern.compile("mover\\.(\\w+)\\(([^)]*)\\);\\s*// (-?\\d+).*");

    public static void main(String[] args) throws Exception {
        String page = Files.readString(Path.of("README.md"));
        MachineMover mover = new MachineMover();
        int calls = 0;
        for (String line : example(page).split("\n")) {
            if (line.startsWith("mover.")) {
                due(line, answer(mover, line), due(line));
                calls++;
            }
        }
        due("there are calls in the example", calls > 0 ? 1 : 0, 1);
        for (Method method : MachineMover.class.getDeclaredMethods()) {
            if (Modifier.isPublic(method.getModifiers())) {
                due("told of " + method.getName(), page.contains("`" + method.getName() + "(") ? 1 : 0, 1);
            }
        }
        end();
    }

    private static String example(String page) {
        Matcher found = Pattern.compile("(?s)```java\n(.*?)```").matcher(page);
        return found.find() ? found.group(1) : "";
    }

    private static long due(String line) {
        return Long.parseLong(parts(line).group(3));
    }

    private static long answer(MachineMover mover, String line) throws Exception {
        Matcher parts = parts(line);
        String[] told = parts.group(2).isEmpty() ? new String[0] : parts.group(2).split(", ");
        Class<?>[] types = new Class<?>[told.length];
        Object[] values = new Object[told.length];
        for (int k = 0; k < told.length; k++) {
            boolean yesOrNo = told[k].equals("true") || told[k].equals("false");
            types[k] = yesOrNo ? boolean.class : int.class;
            values[k] = yesOrNo ? (Object) Boolean.valueOf(told[k]) : Integer.valueOf(told[k]);
        }
        return ((Number) MachineMover.class.getMethod(parts.group(1), types).invoke(mover, values)).longValue();
    }

    private static Matcher parts(String line) {
        Matcher parts = LINE.matcher(line);
        if (!parts.matches()) {
            throw new IllegalStateException("a line of the example that is no call with its answer: " + line);
        }
        return parts;
    }
}
