import java.io.IOException;
import java.lang.reflect.Method;
import java.nio.charset.StandardCharsets;
import java.nio.file.Files;
import java.nio.file.Path;
import java.util.Arrays;
import java.util.regex.Matcher;
import java.util.regex.Pattern;

/** Each call that README.md shows answers what stands behind it. */
public final class ReadmeTest {
    private static final String MADE = "CribbageRoom room = new CribbageRoom();";
    private static final Pattern CALL = Pattern.compile("room\\.(\\w+)\\(([^)]*)\\); +// (-?\\d+)\\b.*");

    private CribbageRoom room = new CribbageRoom();
    private int calls;

    private ReadmeTest() {
    }

    public static void main(String[] args) throws IOException, ReflectiveOperationException {
        ReadmeTest test = new ReadmeTest();
        boolean inside = false;
        for (String line : Files.readAllLines(Path.of("README.md"), StandardCharsets.UTF_8)) {
            if (line.startsWith("```")) {
                inside = line.equals("```java");
            } else if (inside) {
                test.read(line);
            }
        }
        Checks.isSo("README.md shows some fifty calls", test.calls >= 50);
        Checks.end("ReadmeTest");
    }

    /** A line that makes a room, tells what follows, or calls it: no other is left untried. */
    private void read(String line) throws ReflectiveOperationException {
        Matcher call = CALL.matcher(line);
        if (line.equals(MADE)) {
            room = new CribbageRoom();
        } else if (call.matches()) {
            Checks.due(line, answer(call.group(1), call.group(2)), Long.parseLong(call.group(3)));
            calls++;
        } else {
            Checks.isSo("a line that can be tried: " + line, line.startsWith("// "));
        }
    }

    private long answer(String name, String list) throws ReflectiveOperationException {
        String[] told = list.isEmpty() ? new String[0] : list.split(", *");
        Object[] numbers = new Object[told.length];
        for (int i = 0; i < told.length; i++) {
            numbers[i] = Integer.decode(told[i]);
        }
        Class<?>[] types = new Class<?>[told.length];
        Arrays.fill(types, int.class);
        Method method = CribbageRoom.class.getMethod(name, types);
        return ((Number) method.invoke(room, numbers)).longValue();
    }
}
