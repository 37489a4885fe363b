import java.io.IOException;
import java.lang.reflect.InvocationTargetException;
import java.lang.reflect.Method;
import java.nio.file.Files;
import java.nio.file.Path;
import java.util.regex.Matcher;
import java.util.regex.Pattern;

/** The calls in README.md answer what it says behind them. */
final class ReadmeTest {
    private static final Pattern CALL = Pattern.compile("x\\.(\\w+)\\((.*?)\\); +// (-?\\d+|NONE|\\w+Exception)\\b.*");
    private static final int FEWEST_CALLS = 15;

    private ReadmeTest() {
    }

    public static void main(String[] args) throws IOException, IllegalAccessException {
        SnowCanton x = null;
        int calls = 0;
        for (String line : Files.readAllLines(Path.of("README.md"))) {
            if (line.equals("SnowCanton x = new SnowCanton();")) {
                x = new SnowCanton();
            } else if (line.startsWith("x.")) {
                Matcher m = CALL.matcher(line);
                Check.holds("a call and its answer: " + line, m.matches());
                Check.is(line, due(m.group(3)), answer(x, m.group(1), m.group(2)));
                calls++;
            }
        }
        Check.holds("there are calls in it", calls >= FEWEST_CALLS);
        Check.end("ReadmeTest");
    }

    private static String due(String told) {
        return told.equals("NONE") ? "-1" : told;
    }

    private static String answer(SnowCanton x, String name, String told) throws IllegalAccessException {
        String[] parts = told.isEmpty() ? new String[0] : told.split(", ");
        Object[] numbers = new Object[parts.length];
        for (int i = 0; i < parts.length; i++) {
            numbers[i] = Integer.decode(parts[i]);
        }
        for (Method m : SnowCanton.class.getMethods()) {
            if (m.getName().equals(name) && m.getDeclaringClass() == SnowCanton.class) {
                try {
                    return String.valueOf(m.invoke(x, numbers));
                } catch (InvocationTargetException e) {
                    return e.getCause().getClass().getSimpleName();
                }
            }
        }
        return "no such call";
    }
}
