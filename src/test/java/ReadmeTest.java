import java.io.IOException;
import java.lang.reflect.Method;
import java.nio.file.Files;
import java.nio.file.Path;
import java.util.List;
import java.util.regex.Matcher;
import java.util.regex.Pattern;

/** The calls in README.md answer what it says; it is run from the project's directory. */
public final class ReadmeTest {
    private static final Check check = new Check("ReadmeTest");
    private static final String MADE = "PhraseReader x = new PhraseReader();";
    private static final Pattern CALL = Pattern.compile("x\\.(\\w+)\\((.*)\\);\\s*(?://\\s*(-?\\d+)\\b.*)?");

    private PhraseReader x;

    public static void main(String[] args) throws IOException, ReflectiveOperationException {
        new ReadmeTest().run(Files.readAllLines(Path.of("README.md")));
        check.end();
    }

    private void run(List<String> lines) throws ReflectiveOperationException {
        boolean inside = false;
        int calls = 0;
        for (String line : lines) {
            if (line.startsWith("```")) {
                inside = line.equals("```java");
            } else if (inside && line.equals(MADE)) {
                x = new PhraseReader();
            } else if (inside && !line.isEmpty()) {
                call(line);
                calls++;
            }
        }
        check.due("README.md has calls of each kind", calls > 22 ? 1 : 0, 1);
    }

    private void call(String line) throws ReflectiveOperationException {
        Matcher parts = CALL.matcher(line);
        if (!parts.matches()) {
            check.same("README.md", line, "a call of x");
            return;
        }
        long got = answer(parts.group(1), parts.group(2).isEmpty() ? new String[0] : parts.group(2).split(", "));
        if (parts.group(3) != null) {
            check.due("README.md: " + line, got, Long.parseLong(parts.group(3)));
        }
    }

    private long answer(String name, String[] arguments) throws ReflectiveOperationException {
        for (Method m : PhraseReader.class.getMethods()) {
            if (m.getName().equals(name) && m.getParameterCount() == arguments.length) {
                Object[] values = new Object[arguments.length];
                for (int i = 0; i < values.length; i++) {
                    values[i] = value(arguments[i], m.getParameterTypes()[i]);
                }
                return ((Number) m.invoke(x, values)).longValue();
            }
        }
        throw new NoSuchMethodException(name);
    }

    /** A number or a sign between quotes, as the method takes it. */
    private static Object value(String argument, Class<?> type) {
        int number = argument.startsWith("'") ? argument.charAt(1) : Integer.parseInt(argument);
        if (type == long.class) {
            return (long) number;
        }
        return number;
    }
}
