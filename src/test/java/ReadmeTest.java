import java.io.IOException;
import java.lang.reflect.InvocationTargetException;
import java.lang.reflect.Method;
import java.nio.file.Files;
import java.nio.file.Path;
import java.util.regex.Matcher;
import java.util.regex.Pattern;

/** The example of README.md: each call of it is made, and answers what stands behind it. */
public final class ReadmeTest {
    private static final Pattern EXAMPLE = Pattern.compile("(?s)```java\n(.*?)```");
    private static final Pattern CALL = Pattern.compile("desk\\.(\\w+)\\(([^)]*)\\); *// (-?\\d+|true|false)\\b.*");

    public static void main(String[] args) throws IOException, ReflectiveOperationException {
        Matcher example = EXAMPLE.matcher(Files.readString(Path.of("README.md")));
        Checks.due("README.md has an example", example.find(), true);
        TermDesk desk = new TermDesk();
        for (String line : example.group(1).split("\n")) {
            if (line.startsWith("desk.")) {
                Matcher call = CALL.matcher(line);
                Checks.due(line + " is a call with its answer", call.matches(), true);
                Checks.due(line, answer(desk, call.group(1), call.group(2)), number(call.group(3)));
            }
        }
        Checks.end("ReadmeTest");
    }

    private static long answer(TermDesk desk, String name, String told) throws ReflectiveOperationException {
        String[] parts = told.isEmpty() ? new String[0] : told.split(", ");
        Object[] values = new Object[parts.length];
        Class<?>[] types = new Class<?>[parts.length];
        for (int i = 0; i < parts.length; i++) {
            values[i] = Integer.decode(parts[i]);
            types[i] = int.class;
        }
        Method method = TermDesk.class.getMethod(name, types);
        try {
            return number(method.invoke(desk, values).toString());
        } catch (InvocationTargetException thrown) {
            thrown.getCause().printStackTrace(System.out);
            return Long.MIN_VALUE;
        }
    }

    private static long number(String told) {
        return told.equals("true") ? 1 : told.equals("false") ? 0 : Long.parseLong(told);
    }
}
