import java.io.IOException;
import java.lang.reflect.InvocationTargetException;
import java.lang.reflect.Method;
import java.lang.reflect.Modifier;
import java.nio.file.Files;
import java.nio.file.Path;
import java.util.Arrays;
import java.util.Set;
import java.util.TreeSet;
import java.util.regex.Matcher;
import java.util.regex.Pattern;

/** The calls that README.md shows are answered as it says, by the class and by Model; it shows every call. */
public final class ReadmeTest {
    private static final Check CHECK = new Check("ReadmeTest");
    private static final Pattern CALL = Pattern.compile("x\\.(\\w+)\\(([^)]*)\\);\\s*// (-?\\d+)(:.*)?");
    private static final Pattern TYPED = Pattern.compile("type\\(x, \"([^\"]*)\"\\);");
    private static final Pattern TEST_ROW = Pattern.compile("\\| `(\\w+)` \\|.*");

    private final GrindMill x = new GrindMill();
    private final Model y = new Model();
    private final Set<String> shown = new TreeSet<>();

    public static void main(String[] args) throws IOException, ReflectiveOperationException {
        String readme = Files.readString(Path.of("README.md"));
        new ReadmeTest().go(readme);
        testsAreListed(readme);
        CHECK.end();
    }

    private void go(String readme) throws ReflectiveOperationException {
        for (String line : readme.split("\n")) {
            Matcher call = CALL.matcher(line);
            Matcher typed = TYPED.matcher(line);
            if (call.matches()) {
                shown(line, call.group(1), numbers(call.group(2)), Long.parseLong(call.group(3)));
            } else if (typed.matches()) {
                type(typed.group(1));
            } else {
                CHECK.holds("a call of a form that is run: " + line, !line.startsWith("x."));
            }
        }
        for (Method m : GrindMill.class.getDeclaredMethods()) {
            CHECK.holds(m.getName() + " is shown", !Modifier.isPublic(m.getModifiers()) || shown.contains(m.getName()));
        }
    }

    private static Object[] numbers(String told) {
        return told.isEmpty() ? new Object[0]
            : Arrays.stream(told.split(", ")).map(n -> n.equals("GrindMill.NONE") ? GrindMill.NONE : Integer.parseInt(n)).toArray();
    }

    private void shown(String line, String name, Object[] numbers, long answer) throws ReflectiveOperationException {
        shown.add(name);
        CHECK.due("the class: " + line, call(x, name, numbers), answer);
        CHECK.due("Model: " + line, call(y, name, numbers), answer);
    }

    private static long call(Object on, String name, Object[] numbers) throws IllegalAccessException, InvocationTargetException {
        for (Method m : on.getClass().getDeclaredMethods()) {
            boolean face = !Modifier.isPrivate(m.getModifiers()) && !Modifier.isStatic(m.getModifiers());
            if (face && m.getName().equals(name) && m.getParameterCount() == numbers.length) {
                return ((Number) m.invoke(on, numbers)).longValue();
            }
        }
        throw new IllegalStateException(name + " is not there");
    }

    private void type(String text) {
        shown.add("type");
        for (int i = 0; i < text.length(); i++) {
            CHECK.due("type of '" + text + "'", x.type(text.charAt(i)), y.type(text.charAt(i)));
        }
    }

    private static void testsAreListed(String readme) throws IOException {
        Set<String> listed = new TreeSet<>();
        for (String line : readme.split("\n")) {
            Matcher row = TEST_ROW.matcher(line);
            if (row.matches() && row.group(1).endsWith("Test")) {
                listed.add(row.group(1));
            }
        }
        Set<String> there = new TreeSet<>();
        try (var files = Files.list(Path.of("src/test/java"))) {
            files.map(f -> f.getFileName().toString()).filter(f -> f.endsWith("Test.java"))
                .forEach(f -> there.add(f.substring(0, f.length() - ".java".length())));
        }
        CHECK.holds("the tests " + there + " are those listed: " + listed, there.equals(listed));
    }
}
