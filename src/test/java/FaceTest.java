import java.io.IOException;
import java.lang.reflect.Constructor;
import java.lang.reflect.Field;
import java.lang.reflect.Method;
import java.lang.reflect.Modifier;
import java.nio.file.Files;
import java.nio.file.Path;
import java.util.Set;
import java.util.TreeSet;

/** The public face is that of the document, and the class keeps to what LANGUAGE.md says of classes and fields. */
public final class FaceTest {
    private static final Due due = new Due();

    public static void main(String[] args) throws IOException {
        face();
        classes();
        due.end();
    }

    private static void face() throws IOException {
        Set<String> wanted = new TreeSet<>();
        for (String line : Files.readAllLines(Path.of("../shared/DOC.md"))) {
            if (line.matches("    public (int \\w+)?.*\\(.*\\);")) {
                wanted.add(line.strip().replaceAll("(int|long) \\w+([,)])", "$1$2").replace(";", ""));
            }
        }
        due.is("members in the document", wanted.size(), 42);
        Set<String> have = new TreeSet<>();
        for (Constructor<?> c : HomeCalls.class.getDeclaredConstructors()) {
            have.add(Modifier.toString(c.getModifiers()) + " HomeCalls" + types(c.getParameterTypes()));
        }
        Set<String> names = new TreeSet<>();
        for (Method m : HomeCalls.class.getDeclaredMethods()) {
            if (!Modifier.isPrivate(m.getModifiers())) {
                have.add(Modifier.toString(m.getModifiers()) + " " + m.getReturnType() + " " + m.getName() + types(m.getParameterTypes()));
                names.add(m.getName());
            }
        }
        due.is("the face " + have + " as " + wanted, have.equals(wanted) ? 1 : 0, 1);
        due.is("public and final", HomeCalls.class.getModifiers(), Modifier.PUBLIC | Modifier.FINAL);
        for (Method m : HomeCalls.class.getDeclaredMethods()) {
            due.is("private " + m.getName(), Modifier.isPrivate(m.getModifiers()) && names.contains(m.getName()) ? 1 : 0, 0);
        }
        for (Class<?> inside : HomeCalls.class.getDeclaredClasses()) {
            for (Method m : inside.getDeclaredMethods()) {
                due.is(inside.getName() + "." + m.getName() + " bears a name of the face", names.contains(m.getName()) ? 1 : 0, 0);
            }
        }
    }

    private static String types(Class<?>[] types) {
        StringBuilder all = new StringBuilder("(");
        for (Class<?> type : types) {
            all.append(all.length() > 1 ? ", " : "").append(type);
        }
        return all.append(")").toString();
    }

    private static void classes() {
        due.is("some twelve classes", HomeCalls.class.getDeclaredClasses().length <= 11 ? 1 : 0, 1);
        fields(HomeCalls.class);
        for (Class<?> inside : HomeCalls.class.getDeclaredClasses()) {
            int modifiers = inside.getModifiers();
            due.is(inside + " is static", Modifier.isStatic(modifiers) ? 1 : 0, 1);
            due.is(inside + " is not of the face", Modifier.isPublic(modifiers) || Modifier.isProtected(modifiers) ? 1 : 0, 0);
            fields(inside);
        }
    }

    private static void fields(Class<?> of) {
        int own = 0;
        for (Field f : of.getDeclaredFields()) {
            if (Modifier.isStatic(f.getModifiers())) {
                due.is(f + " is final", Modifier.isFinal(f.getModifiers()) ? 1 : 0, 1);
            } else {
                own++;
            }
            if (of == HomeCalls.class) {
                due.is(f + " is private", Modifier.isPrivate(f.getModifiers()) ? 1 : 0, 1);
            }
        }
        due.is("some twenty fields of " + of, own <= 20 ? 1 : 0, 1);
        for (Method m : of.getDeclaredMethods()) {
            due.is("parameters of " + m, m.getParameterCount() <= 7 ? 1 : 0, 1);
        }
    }
}
