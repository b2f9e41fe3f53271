import java.io.IOException;
import java.lang.reflect.Method;
import java.nio.file.Files;
import java.nio.file.Path;
import java.util.regex.Matcher;
import java.util.regex.Pattern;

/** The calls that README.md shows, each with the answer that stands behind it. */
public final class ReadmeTest {
    private static final Pattern CALL = Pattern.compile("x\\.(\\w+)\\(([^)]*)\\); +// (-?\\d+).*");
    private static final Pattern FEED =
        Pattern.compile("for \\(char letter : \"([^\"]*)\"\\.toCharArray\\(\\)\\) x\\.feed\\(letter\\);");
    private static final String NEW = "HamperByWeather x = new HamperByWeather();";

    private static HamperByWeather x;

    public static void main(String[] args) throws IOException, ReflectiveOperationException {
        Path source = Path.of(System.getProperty("source", "src/main/java/HamperByWeather.java")).toAbsolutePath();
        Path root = source.getParent().getParent().getParent().getParent();
        boolean code = false;
        int calls = 0;
        for (String line : Files.readAllLines(root.resolve("README.md"))) {
            if (line.startsWith("```")) {
                code = line.equals("```java");
            } else if (code && !line.isEmpty()) {
                calls += make(line);
            }
        }
        Due.is("calls seen in README.md", calls > 20 ? 1 : 0, 1);
        Due.close();
    }

    private static int make(String line) throws ReflectiveOperationException {
        Matcher call = CALL.matcher(line);
        Matcher feed = FEED.matcher(line);
        if (line.equals(NEW)) {
            x = new HamperByWeather();
        } else if (feed.matches()) {
            Due.feed(x, feed.group(1));
        } else if (call.matches()) {
            Due.is(line, answer(call.group(1), call.group(2)), Long.parseLong(call.group(3)));
            return 1;
        } else {
            Due.is("a line of README.md that is no call: " + line, 1, 0);
        }
        return 0;
    }

    private static long answer(String name, String told) throws ReflectiveOperationException {
        String[] words = told.isEmpty() ? new String[0] : told.split(", ");
        Class<?>[] types = new Class<?>[words.length];
        Object[] values = new Object[words.length];
        for (int i = 0; i < words.length; i++) {
            types[i] = int.class;
            values[i] = Integer.valueOf(words[i]);
        }
        Method method = HamperByWeather.class.getMethod(name, types);
        return ((Number) method.invoke(x, values)).longValue();
    }
}
