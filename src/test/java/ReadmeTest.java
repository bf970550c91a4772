import java.io.IOException;
import java.lang.reflect.InvocationTargetException;
import java.lang.reflect.Method;
import java.lang.reflect.Modifier;
import java.nio.file.Files;
import java.nio.file.Path;
import java.util.Arrays;
import java.util.Set;
import java.util.TreeSet;
import java.util.regex.Matcher;
import java.util.regex.Pattern;

/** Goes through README.md: each call that it shows answers the number that stands behind it. */
public final class ReadmeTest {
    private static final Path README = Path.of("README.md");
    private static final int MOST_CALLS = 512;
    private static final Pattern CALL = Pattern.compile("nets\\.(\\w+)\\(([-\\d, ]*)\\);\\s+// (-?\\d+): \\S.*");

    private static int wrong = 0;
    private static int calls = 0;
    private static NetSearch nets;
    private static final Set<String> shown = new TreeSet<>();

    public static void main(String[] args) throws IOException, ReflectiveOperationException {
        boolean inCode = false;
        for (String line : Files.readAllLines(README)) {
            if (line.startsWith("```")) {
                inCode = line.equals("```java");
            } else if (inCode) {
                follow(line.strip());
            }
        }
        for (Method method : NetSearch.class.getDeclaredMethods()) {
            if (Modifier.isPublic(method.getModifiers()) && !shown.contains(method.getName())) {
                tell("README.md does not show how " + method.getName() + " is called");
            }
        }
        if (calls > MOST_CALLS) {
            tell("README.md calls one object more than " + MOST_CALLS + " times");
        }
        System.out.println(wrong == 0 ? "README.md says what the calls answer" : wrong + " lines are not as due");
        if (wrong != 0) {
            System.exit(1);
        }
    }

    private static void follow(String line) throws ReflectiveOperationException {
        Matcher call = CALL.matcher(line);
        if (line.equals("NetSearch nets = new NetSearch();")) {
            nets = new NetSearch();
            calls = 0;
        } else if (nets != null && call.matches()) {
            long got = answer(call.group(1), call.group(2));
            if (got != Long.parseLong(call.group(3))) {
                tell(line + " answered " + got);
            }
        } else if (!line.isEmpty() && !line.startsWith("//")) {
            tell("README.md shows a line that this test can't follow: " + line);
        }
    }

    private static long answer(String name, String arguments) throws ReflectiveOperationException {
        Object[] numbers = arguments.isEmpty() ? new Object[0]
                : Arrays.stream(arguments.split(", ")).map(Integer::valueOf).toArray();
        Class<?>[] types = new Class<?>[numbers.length];
        Arrays.fill(types, int.class);
        calls++;
        shown.add(name);
        try {
            return ((Number) NetSearch.class.getMethod(name, types).invoke(nets, numbers)).longValue();
        } catch (InvocationTargetException thrown) {
            tell(name + "(" + arguments + ") threw " + thrown.getCause());
            return Long.MIN_VALUE;
        }
    }

    private static void tell(String what) {
        wrong++;
        System.out.println(what);
    }
}
