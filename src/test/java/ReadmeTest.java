import java.io.IOException;
import java.lang.reflect.Method;
import java.nio.file.Files;
import java.nio.file.Path;
import java.util.regex.Matcher;
import java.util.regex.Pattern;

/** The calls of README.md, one behind the other, answer what it says. It is run from the project's folder. */
final class ReadmeTest {
    private static final Pattern CALL = Pattern.compile("    x\\.(\\w+)\\((.*)\\); +// (-?\\d+): .*");

    public static void main(String[] args) throws IOException, ReflectiveOperationException {
        CoatPockets x = new CoatPockets();
        int calls = 0;
        for (String line : Files.readAllLines(Path.of("README.md"))) {
            Matcher call = CALL.matcher(line);
            Due.due("a call, or none: " + line, call.matches() || !line.startsWith("    x."));
            if (call.matches()) {
                calls++;
                Due.due(line.trim(), answer(x, call.group(1), call.group(2)), Integer.parseInt(call.group(3)));
            }
        }
        Due.due("there are calls", calls > 10);
        Due.end();
    }

    private static int answer(CoatPockets x, String name, String told) throws ReflectiveOperationException {
        String[] each = told.isEmpty() ? new String[0] : told.split(", ");
        for (Method method : CoatPockets.class.getMethods()) {
            if (method.getName().equals(name) && method.getParameterCount() == each.length) {
                Object[] values = new Object[each.length];
                for (int i = 0; i < each.length; i++) {
                    values[i] = value(each[i], method.getParameterTypes()[i]);
                }
                return (int) method.invoke(x, values);
            }
        }
        throw new NoSuchMethodException(name);
    }

    /** A number of README.md: a sum of products, or a long of hexadecimal digits. */
    private static Object value(String text, Class<?> type) {
        if (type == long.class) {
            return Long.decode(text.replace("L", ""));
        }
        int sum = 0;
        for (String part : text.split(" \\+ ")) {
            int product = 1;
            for (String factor : part.split(" \\* ")) {
                product *= Integer.parseInt(factor);
            }
            sum += product;
        }
        return sum;
    }
}
