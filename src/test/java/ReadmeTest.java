import java.io.IOException;
import java.lang.reflect.Method;
import java.lang.reflect.Modifier;
import java.nio.file.Files;
import java.nio.file.Path;
import java.util.Arrays;
import java.util.Set;
import java.util.TreeSet;
import java.util.regex.Matcher;
import java.util.regex.Pattern;

/** The examples of README.md: one object, each call in its order, each answer as it stands there. */
public final class ReadmeTest {
    private static final Pattern FED = Pattern.compile("for \\(char sign : \"(.*)\"\\.toCharArray\\(\\)\\) x\\.feed\\(sign\\);");
    private static final Pattern CALL = Pattern.compile("x\\.(\\w+)\\((.*)\\); *// (-?\\d+)(:.*)?");

    private static final Set<String> SHOWN = new TreeSet<>();
    private static TwoOnOneBack x;

    public static void main(String[] args) throws IOException, ReflectiveOperationException {
        boolean example = false;
        for (String line : Files.readAllLines(Path.of("README.md"))) {
            if (line.startsWith("```")) {
                example = line.equals("```java");
            } else if (example) {
                read(line);
            }
        }
        for (Method m : TwoOnOneBack.class.getDeclaredMethods()) {
            Due.holds("an example of " + m.getName(),
                !Modifier.isPublic(m.getModifiers()) || SHOWN.contains(m.getName()));
        }
        Due.end("ReadmeTest");
    }

    private static void read(String line) throws ReflectiveOperationException {
        Matcher fed = FED.matcher(line);
        Matcher call = CALL.matcher(line);
        if (line.equals("TwoOnOneBack x = new TwoOnOneBack();")) {
            x = new TwoOnOneBack();
        } else if (fed.matches()) {
            SHOWN.add("feed");
            for (char sign : fed.group(1).toCharArray()) {
                x.feed(sign);
            }
        } else if (call.matches()) {
            SHOWN.add(call.group(1));
            Due.is("README: " + line, answer(call.group(1), call.group(2)), Long.parseLong(call.group(3)));
        } else {
            Due.holds("README: no example is like " + line, false);
        }
    }

    private static long answer(String name, String told) throws ReflectiveOperationException {
        String[] numbers = told.isEmpty() ? new String[0] : told.split(", ");
        for (Method m : TwoOnOneBack.class.getDeclaredMethods()) {
            if (m.getName().equals(name) && m.getParameterCount() == numbers.length) {
                Object[] all = new Object[numbers.length];
                Arrays.setAll(all, k -> m.getParameterTypes()[k] == long.class
                    ? (Object) Long.valueOf(numbers[k]) : (Object) Integer.valueOf(numbers[k]));
                return ((Number) m.invoke(x, all)).longValue();
            }
        }
        throw new IllegalStateException("README: no call " + name + "(" + told + ")");
    }
}
