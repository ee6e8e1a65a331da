import java.io.IOException;
import java.lang.reflect.InvocationTargetException;
import java.lang.reflect.Method;
import java.nio.file.Files;
import java.nio.file.Path;
import java.util.regex.Matcher;
import java.util.regex.Pattern;

/** The examples of README.md: each call is made, and has to give the answer that stands behind it. Started in the project's folder. */
public final class ReadmeTest {
    private static final Path README = Path.of("README.md");
    private static final String NEW_OBJECT = "PartingRoads roads = new PartingRoads();";
    private static final Pattern CALL = Pattern.compile("roads\\.(\\w+)\\((.*)\\); +// (-?\\d+).*");
    private static final int LEAST_CALLS = 10;

    private static PartingRoads roads = null;

    private ReadmeTest() {}

    public static void main(String[] args) throws IOException, ReflectiveOperationException {
        boolean inExample = false;
        for (String line : Files.readAllLines(README)) {
            if (line.startsWith("```")) {
                inExample = line.equals("```java");
            } else if (inExample) {
                runLine(line);
            }
        }
        Due.is("the examples have calls enough", Due.asked() >= LEAST_CALLS ? 1 : 0, 1);
        Due.end();
    }

    private static void runLine(String line) throws ReflectiveOperationException {
        Matcher call = CALL.matcher(line);
        if (line.startsWith(NEW_OBJECT)) {
            roads = new PartingRoads();
        } else if (call.matches()) {
            Due.is(line, answer(call.group(1), call.group(2).split(", ")), Long.parseLong(call.group(3)));
        } else {
            Due.is("a call and its answer in: " + line, 0, 1);
        }
    }

    private static long answer(String name, String[] words) throws IllegalAccessException, InvocationTargetException {
        for (Method method : PartingRoads.class.getMethods()) {
            if (method.getName().equals(name)) {
                Class<?>[] types = method.getParameterTypes();
                Object[] arguments = new Object[types.length];
                for (int place = 0; place < types.length; place++) {
                    long number = Long.decode(words[place].replace("L", ""));
                    // An if, since ?: would make a long of both.
                    if (types[place] == int.class) {
                        arguments[place] = (int) number;
                    } else {
                        arguments[place] = number;
                    }
                }
                return (int) method.invoke(roads, arguments);
            }
        }
        throw new IllegalArgumentException("README.md calls " + name);
    }
}
