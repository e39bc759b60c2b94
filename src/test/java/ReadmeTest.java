import java.io.IOException;
import java.lang.reflect.Method;
import java.lang.reflect.Modifier;
import java.nio.file.Files;
import java.nio.file.Path;
import java.util.regex.Matcher;
import java.util.regex.Pattern;

/** The examples of README.md are done call by call, and answer what it says behind them. */
public final class ReadmeTest {
    private static final Pattern CALL = Pattern.compile("x\\.(\\w+)\\((.*?)\\); +// (-?\\d+)(:.*)?");

    public static void main(String[] args) throws IOException, ReflectiveOperationException {
        String readme = Files.readString(Path.of("README.md"));
        RoundTours x = new RoundTours();
        for (String line : readme.split("\n")) {
            Matcher call = CALL.matcher(line);
            if (call.matches()) {
                Due.due(line, answer(x, call.group(1), call.group(2)), Long.parseLong(call.group(3)));
            } else {
                Due.that(!line.startsWith("x."), "an answer stands behind " + line);
            }
        }
        Due.that(Due.asked() > 0, "README.md has examples");
        for (Method method : RoundTours.class.getDeclaredMethods()) {
            boolean told = readme.contains("`" + method.getName() + "`");
            Due.that(told || !Modifier.isPublic(method.getModifiers()), "README.md tells of " + method.getName());
        }
        Due.end();
    }

    private static long answer(RoundTours x, String name, String told) throws ReflectiveOperationException {
        for (Method method : RoundTours.class.getMethods()) {
            if (method.getName().equals(name) && method.getDeclaringClass() == RoundTours.class) {
                String[] parts = told.isEmpty() ? new String[0] : told.split(", ");
                Object[] values = new Object[parts.length];
                for (int i = 0; i < parts.length; i++) {
                    values[i] = value(parts[i], method.getParameterTypes()[i]);
                }
                return ((Number) method.invoke(x, values)).longValue();
            }
        }
        throw new NoSuchMethodException(name);
    }

    private static Object value(String told, Class<?> type) {
        if (type == boolean.class) {
            return Boolean.valueOf(told);
        }
        if (type == long.class) {
            return Long.decode(told.replace("L", ""));
        }
        return Integer.valueOf(told);
    }
}
