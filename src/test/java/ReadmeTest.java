import java.io.IOException;
import java.lang.reflect.Method;
import java.lang.reflect.Modifier;
import java.nio.file.Files;
import java.nio.file.Path;
import java.util.Set;
import java.util.TreeSet;
import java.util.regex.Matcher;
import java.util.regex.Pattern;

/** The example in README.md shows each call of the face, with what the class answers to it. */
public final class ReadmeTest {
    private static final Path README = Path.of("README.md");
    private static final Pattern ROW = Pattern.compile("order\\.(\\w+)\\((.*?)\\); +// (-?\\d+)(:.*)?");
    private static final Check CHECK = new Check("readme");

    public static void main(String[] args) throws IOException, ReflectiveOperationException {
        PosetWidth order = new PosetWidth();
        Set<String> shown = new TreeSet<>();
        for (String line : Files.readAllLines(README)) {
            if (line.startsWith("order.")) {
                shown.add(playRow(order, line));
            }
        }
        for (String name : namesOfTheFace()) {
            CHECK.holds("the example shows " + name, shown.contains(name));
        }
        CHECK.end();
    }

    /** Answers the name of the method that the row calls. */
    private static String playRow(PosetWidth order, String line) throws ReflectiveOperationException {
        Matcher row = ROW.matcher(line);
        boolean readable = row.matches();
        CHECK.holds("the row tells an answer: " + line, readable);
        if (!readable) {
            return "";
        }
        Method method = methodNamed(row.group(1));
        Object got = method.invoke(order, values(method, row.group(2)));
        CHECK.due(line, (Integer) got, Long.parseLong(row.group(3)));
        return method.getName();
    }

    private static Object[] values(Method method, String text) {
        Class<?>[] types = method.getParameterTypes();
        Object[] values = new Object[types.length];
        String[] parts = text.split(", ");
        for (int k = 0; k < types.length; k++) {
            if (types[k] == boolean.class) {
                values[k] = Boolean.valueOf(parts[k]);
            } else {
                values[k] = Integer.valueOf(parts[k]);
            }
        }
        return values;
    }

    private static Method methodNamed(String name) throws NoSuchMethodException {
        for (Method method : PosetWidth.class.getDeclaredMethods()) {
            if (method.getName().equals(name)) {
                return method;
            }
        }
        throw new NoSuchMethodException(name);
    }

    private static Set<String> namesOfTheFace() {
        Set<String> names = new TreeSet<>();
        for (Method method : PosetWidth.class.getDeclaredMethods()) {
            if (Modifier.isPublic(method.getModifiers())) {
                names.add(method.getName());
            }
        }
        return names;
    }
}
