import java.io.IOException;
import java.lang.reflect.InvocationTargetException;
import java.lang.reflect.Method;
import java.nio.file.Files;
import java.nio.file.Path;
import java.util.HashMap;
import java.util.Map;
import java.util.regex.Matcher;
import java.util.regex.Pattern;

/** The example of README.md, line by line: each call answers the number that stands behind it. */
public final class ReadmeTest extends Checks {
    private static final Pattern LINE =
            Pattern.compile("(?:int (\\w+) = )?people\\.(\\w+)\\(([^)]*)\\); +// (-?\\d+).*");

    private final AgeSets people = new AgeSets();
    private final Map<String, Integer> named = new HashMap<>();

    private Object[] told(String list) {
        String[] parts = list.split(", ");
        Object[] told = new Object[parts.length];
        for (int i = 0; i < parts.length; i++) {
            Integer known = named.get(parts[i]);
            told[i] = known != null ? known : Integer.valueOf(parts[i]);
        }
        return told;
    }

    private long answer(String name, Object[] told) {
        for (Method method : AgeSets.class.getMethods()) {
            if (method.getName().equals(name) && method.getParameterCount() == told.length) {
                try {
                    return ((Number) method.invoke(people, told)).longValue();
                } catch (IllegalAccessException | InvocationTargetException e) {
                    throw new IllegalStateException(e);
                }
            }
        }
        throw new IllegalStateException("no call " + name);
    }

    private void check(String line) {
        tested = "README.md: " + line;
        Matcher parts = LINE.matcher(line);
        if (!parts.matches()) {
            throw new IllegalStateException(tested);
        }
        long got = answer(parts.group(2), told(parts.group(3)));
        due(Long.parseLong(parts.group(4)), got);
        if (parts.group(1) != null) {
            named.put(parts.group(1), (int) got);
        }
    }

    public static void main(String[] args) throws IOException {
        ReadmeTest test = new ReadmeTest();
        String text = Files.readString(Path.of("README.md"));
        String example = text.substring(text.indexOf("```java\n") + 8);
        String[] lines = example.substring(0, example.indexOf("\n```")).split("\n");
        dueTrue("an example that begins with a new object", lines[0].equals("AgeSets people = new AgeSets();"));
        for (int i = 1; i < lines.length; i++) {
            test.check(lines[i]);
        }
        dueTrue("an example of some length", lines.length > 20);
        tellEnd();
    }
}
