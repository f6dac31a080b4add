import java.io.IOException;
import java.lang.reflect.Method;
import java.nio.file.Files;
import java.nio.file.Path;
import java.util.regex.Matcher;
import java.util.regex.Pattern;

/** The calls of README.md, one behind another on one object, answer what stands behind them. */
public final class ReadmeTest {
    private static final Pattern CALL = Pattern.compile("^post\\.(\\w+)\\((.*?)\\); +// (-?\\d+)(:.*)?$");

    private ReadmeTest() {
    }

    public static void main(String[] args) throws IOException, ReflectiveOperationException {
        Checks checks = new Checks("ReadmeTest");
        MercuryPost post = new MercuryPost();
        int calls = 0;
        for (String line : Files.readAllLines(Path.of("README.md"))) {
            Matcher m = CALL.matcher(line);
            if (m.matches()) {
                checks.due(line, answer(post, m.group(1), m.group(2)), Long.parseLong(m.group(3)));
                calls++;
            } else if (line.startsWith("post.")) {
                checks.due("a call without an answer: " + line, 1, 0);
            }
        }
        checks.due("README.md has calls", calls > 0 ? 1 : 0, 1);
        checks.end();
    }

    private static long answer(MercuryPost post, String name, String parts) throws ReflectiveOperationException {
        String[] told = parts.isEmpty() ? new String[0] : parts.split(", ");
        Class<?>[] types = new Class<?>[told.length];
        Object[] numbers = new Object[told.length];
        for (int i = 0; i < told.length; i++) {
            types[i] = int.class;
            numbers[i] = Integer.decode(told[i]);
        }
        Method method = MercuryPost.class.getMethod(name, types);
        return ((Number) method.invoke(post, numbers)).longValue();
    }
}
