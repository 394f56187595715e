import java.io.IOException;
import java.lang.reflect.Method;
import java.nio.file.Files;
import java.nio.file.Path;
import java.util.ArrayList;
import java.util.List;
import java.util.Set;
import java.util.TreeSet;
import java.util.regex.Matcher;
import java.util.regex.Pattern;

/**
 * The example of README.md: each of its calls is made, and must answer what stands behind it.
 * To be run from the top of the checkout.
 */
public final class ReadmeTest {
    private static final String MAKING = "IgnoreRules rules = new IgnoreRules();";
    private static final Pattern CALL = Pattern.compile("rules\\.(\\w+)\\(([^)]*)\\);(?: +// (\\w+)(?::.*)?)?");

    private static int wrong = 0;

    private static void wrong(String what) {
        wrong++;
        System.out.println(what);
    }

    /** The lines of the README's Java blocks, without the empty ones and those that are comments. */
    private static List<String> exampleLines() throws IOException {
        List<String> found = new ArrayList<>();
        boolean inside = false;
        for (String line : Files.readAllLines(Path.of("README.md"))) {
            if (line.startsWith("```")) {
                inside = line.equals("```java");
            } else if (inside && !line.isBlank() && !line.startsWith("//")) {
                found.add(line);
            }
        }
        return found;
    }

    private static Method methodNamed(String name) {
        for (Method method : IgnoreRules.class.getDeclaredMethods()) {
            if (method.getName().equals(name)) {
                return method;
            }
        }
        return null;
    }

    private static Object answerOf(IgnoreRules rules, Method method, String argument) throws ReflectiveOperationException {
        if (method.getParameterCount() == 0) {
            return method.invoke(rules);
        }
        if (method.getParameterTypes()[0] == boolean.class) {
            return method.invoke(rules, Boolean.parseBoolean(argument));
        }
        return method.invoke(rules, Integer.parseInt(argument));
    }

    /** The README names the constants instead of telling their values. */
    private static String valueOf(String written) throws ReflectiveOperationException {
        boolean constant = written != null && written.matches("[A-Z_]+");
        return constant ? String.valueOf(IgnoreRules.class.getField(written).get(null)) : String.valueOf(written);
    }

    private static void call(IgnoreRules rules, String line, Set<String> called) throws ReflectiveOperationException {
        Matcher parts = CALL.matcher(line);
        Method method = parts.matches() ? methodNamed(parts.group(1)) : null;
        if (method == null) {
            wrong("README.md: not a call with its answer: " + line);
            return;
        }
        called.add(method.getName());
        // A call that answers nothing gives null, and so does a line without an answer.
        String got = String.valueOf(answerOf(rules, method, parts.group(2)));
        String want = valueOf(parts.group(3));
        if (!got.equals(want)) {
            wrong("README.md: " + line + " -- answered " + got);
        }
    }

    public static void main(String[] args) throws IOException, ReflectiveOperationException {
        List<String> lines = exampleLines();
        if (lines.isEmpty() || !lines.get(0).equals(MAKING)) {
            wrong("README.md: the example doesn't begin with " + MAKING);
            lines = List.of(MAKING);
        }
        IgnoreRules rules = new IgnoreRules();
        Set<String> called = new TreeSet<>();
        for (String line : lines.subList(1, lines.size())) {
            call(rules, line, called);
        }
        Set<String> due = new TreeSet<>(List.of("pattern", "rule", "dropRule", "path", "clearPath", "ignored", "lastMatch",
                "matches", "cutAt", "rules"));
        if (!called.equals(due)) {
            wrong("README.md: the example shows " + called + ", due is " + due);
        }
        System.out.println(wrong == 0 ? "the example is as written" : wrong + " things in the example are not as due");
        if (wrong != 0) {
            System.exit(1);
        }
    }
}
