import java.io.IOException;
import java.lang.reflect.Method;
import java.nio.file.Files;
import java.nio.file.Path;
import java.util.HashMap;
import java.util.Map;
import java.util.Set;
import java.util.TreeSet;
import java.util.regex.Matcher;
import java.util.regex.Pattern;

/** The run that README.md shows answers what it says there, and shows every call of the face. */
public final class ReadmeTest {
    private static final Due due = new Due();
    private static final Path README = Path.of("README.md");
    private static final String MADE = "HomeCalls street = new HomeCalls();";
    private static final Pattern ROW = Pattern.compile("street\\.(\\w+)\\((.*)\\); +// (-?\\d+): .+");

    private final Map<String, Method> face = new HashMap<>();
    private final Set<String> shown = new TreeSet<>();
    private HomeCalls street;

    public static void main(String[] args) throws IOException, ReflectiveOperationException {
        new ReadmeTest().run();
        due.end();
    }

    private void run() throws IOException, ReflectiveOperationException {
        for (Method method : HomeCalls.class.getDeclaredMethods()) {
            if (!java.lang.reflect.Modifier.isPrivate(method.getModifiers())) {
                face.put(method.getName(), method);
            }
        }
        boolean code = false;
        for (String line : Files.readAllLines(README)) {
            if (line.startsWith("```")) {
                code = line.equals("```java");
            } else if (code) {
                ask(line);
            }
        }
        due.is("README.md shows " + shown + " of " + face.keySet(), shown.size(), face.size());
    }

    private void ask(String line) throws ReflectiveOperationException {
        if (line.equals(MADE)) {
            street = new HomeCalls();
            return;
        }
        Matcher row = ROW.matcher(line);
        boolean known = row.matches() && street != null && face.containsKey(row.group(1));
        due.is("README.md can be asked: " + line, known ? 1 : 0, 1);
        if (known) {
            Method method = face.get(row.group(1));
            shown.add(row.group(1));
            due.is("README.md: " + line, (Integer) method.invoke(street, numbers(row.group(2), method)), Long.parseLong(row.group(3)));
        }
    }

    private static Object[] numbers(String words, Method method) {
        Class<?>[] types = method.getParameterTypes();
        Object[] numbers = new Object[types.length];
        String[] parts = words.split(", ");
        for (int i = 0; i < types.length; i++) {
            long number = Long.decode(parts[i].replace("L", ""));
            if (types[i] == long.class) {
                numbers[i] = number;
            } else {
                numbers[i] = (int) number;
            }
        }
        return numbers;
    }
}
