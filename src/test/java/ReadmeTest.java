import java.io.IOException;
import java.lang.reflect.Method;
import java.lang.reflect.Modifier;
import java.nio.file.Files;
import java.nio.file.Path;
import java.util.regex.Matcher;
import java.util.regex.Pattern;

/** README.md: each call of its example answers the number that is told behind it; its table names every call. */
public final class ReadmeTest {
    private static final Check CHECK = new Check("ReadmeTest");
    private static final Pattern CALL = Pattern.compile("x\\.(\\w+)\\((.*)\\); *// (-?\\d+)[ :].*");

    public static void main(String[] args) throws IOException, ReflectiveOperationException {
        String readme = Files.readString(Path.of("README.md"));
        example(readme);
        calls(readme);
        CHECK.end();
    }

    private static void example(String readme) throws ReflectiveOperationException {
        String code = between(readme, "```java\n", "```");
        String text = between(code, "String text = \"", "\"");
        IceYard x = new IceYard();
        int calls = 0;
        for (String line : code.split("\n")) {
            if (line.contains("x.put(0, i, text.charAt(i))")) {
                for (int i = 0; i < text.length(); i++) {
                    CHECK.due("put " + i, x.put(0, i, text.charAt(i)), 1);
                }
            }
            Matcher call = CALL.matcher(line);
            if (call.matches()) {
                calls++;
                String[] numbers = call.group(2).replace("text.length()", "" + text.length()).split(", *");
                CHECK.due(line, answer(x, call.group(1), numbers), Long.parseLong(call.group(3)));
            }
        }
        CHECK.due("calls of the example, as many as lines begin with one", calls, code.split("\nx\\.").length - 1);
    }

    private static long answer(IceYard x, String name, String[] numbers) throws ReflectiveOperationException {
        for (Method m : IceYard.class.getMethods()) {
            if (m.getName().equals(name)) {
                Object[] values = new Object[m.getParameterCount()];
                for (int i = 0; i < values.length; i++) {
                    long number = Long.parseLong(numbers[i]);
                    if (m.getParameterTypes()[i] == long.class) {
                        values[i] = number;
                    } else {
                        values[i] = (int) number;
                    }
                }
                return ((Number) m.invoke(x, values)).longValue();
            }
        }
        throw new IllegalStateException("no call " + name);
    }

    private static void calls(String readme) {
        String table = between(readme, "| calls |", "\n\n");
        for (Method m : IceYard.class.getDeclaredMethods()) {
            if (Modifier.isPublic(m.getModifiers())) {
                CHECK.due("the table names " + m.getName(), table.contains("`" + m.getName() + "`") ? 1 : 0, 1);
            }
        }
    }

    private static String between(String text, String from, String to) {
        int start = text.indexOf(from) + from.length();
        int end = text.indexOf(to, start);
        if (start < from.length() || end < 0) {
            throw new IllegalStateException("no " + from + " .. " + to);
        }
        return text.substring(start, end);
    }
}
