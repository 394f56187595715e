import java.lang.reflect.Constructor;
import java.lang.reflect.Field;
import java.lang.reflect.Method;
import java.lang.reflect.Modifier;
import java.util.Arrays;
import java.util.Set;
import java.util.TreeSet;

/** The members of the class that aren't private are those of the document's public face, and no other. */
public final class FaceTest {
    private static int wrong = 0;

    private static void same(String what, Object got, Object want) {
        if (!got.equals(want)) {
            wrong++;
            System.out.println(what + ": found " + got + ", due is " + want);
        }
    }

    private static Set<String> setOf(String... lines) {
        return new TreeSet<>(Arrays.asList(lines));
    }

    private static Set<String> constants() throws IllegalAccessException {
        Set<String> found = new TreeSet<>();
        for (Field field : IgnoreRules.class.getDeclaredFields()) {
            if (Modifier.isPrivate(field.getModifiers())) {
                continue;
            }
            boolean constant = Modifier.isStatic(field.getModifiers());
            String value = constant ? " = " + field.get(null) : "";
            found.add(Modifier.toString(field.getModifiers()) + " " + field.getType() + " " + field.getName() + value);
        }
        return found;
    }

    private static Set<String> methods() {
        Set<String> found = new TreeSet<>();
        for (Method method : IgnoreRules.class.getDeclaredMethods()) {
            if (!Modifier.isPrivate(method.getModifiers())) {
                found.add(method.toString());
            }
        }
        return found;
    }

    private static Set<String> constructors() {
        Set<String> found = new TreeSet<>();
        for (Constructor<?> constructor : IgnoreRules.class.getDeclaredConstructors()) {
            found.add(constructor.toString());
        }
        return found;
    }

    public static void main(String[] args) throws IllegalAccessException {
        same("class", Modifier.toString(IgnoreRules.class.getModifiers()), "public final");
        same("nested classes", IgnoreRules.class.getDeclaredClasses().length, 0);
        same("constructors", constructors(), setOf("public IgnoreRules()"));
        same("constants", constants(), setOf(
                "public static final int BAD_CHAR = -1",
                "public static final int FULL = -2",
                "public static final int BAD_RULE = -3",
                "public static final int BAD_PATH = -4",
                "public static final int NONE = -5"));
        same("methods", methods(), setOf(
                "public int IgnoreRules.pattern(int)",
                "public int IgnoreRules.rule(int)",
                "public int IgnoreRules.dropRule()",
                "public int IgnoreRules.path(int)",
                "public void IgnoreRules.clearPath()",
                "public boolean IgnoreRules.ignored(boolean)",
                "public int IgnoreRules.lastMatch(boolean)",
                "public int IgnoreRules.matches(boolean)",
                "public int IgnoreRules.cutAt(boolean)",
                "public int IgnoreRules.rules()"));
        System.out.println(wrong == 0 ? "the face is as due" : wrong + " parts of the face are not as due");
        if (wrong != 0) {
            System.exit(1);
        }
    }
}
