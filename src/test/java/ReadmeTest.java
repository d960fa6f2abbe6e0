import java.io.IOException;
import java.lang.reflect.Method;
import java.nio.charset.StandardCharsets;
import java.nio.file.Files;
import java.nio.file.Path;
import java.util.regex.Matcher;
import java.util.regex.Pattern;

/** Each call that README.md shows must answer what stands behind it there, in their order. */
public final class ReadmeTest {
    private static final Pattern CALL = Pattern.compile("x\\.(\\w+)\\(([^)]*)\\);\\s+// (-?\\d+).*");

    public static void main(String[] args) throws Exception {
        DishLines x = new DishLines();
        int seen = 0;
        for (String line : lines()) {
            Matcher call = CALL.matcher(line);
            if (call.matches()) {
                seen++;
                Check.due(line, answer(x, call.group(1), call.group(2)), Long.parseLong(call.group(3)));
            } else {
                Check.holds("can't be read: " + line, !line.startsWith("x."));
            }
        }
        Check.holds("README.md shows calls", seen > 0);
        Check.end();
    }

    private static String[] lines() throws IOException {
        return Files.readString(Path.of(System.getProperty("readme")), StandardCharsets.US_ASCII).split("\n");
    }

    private static long answer(DishLines x, String name, String told) throws ReflectiveOperationException {
        String[] parts = told.isEmpty() ? new String[0] : told.split(", ");
        Object[] numbers = new Object[parts.length];
        for (int i = 0; i < parts.length; i++) {
            numbers[i] = Integer.decode(parts[i]);
        }
        for (Method method : DishLines.class.getMethods()) {
            if (method.getName().equals(name) && method.getParameterCount() == parts.length) {
                return ((Number) method.invoke(x, numbers)).longValue();
            }
        }
        throw new NoSuchMethodException(name);
    }
}
