import java.io.IOException;
import java.lang.reflect.Method;
import java.lang.reflect.Modifier;
import java.nio.file.Files;
import java.nio.file.Path;
import java.util.List;
import java.util.Set;
import java.util.TreeSet;
import java.util.regex.Matcher;
import java.util.regex.Pattern;

/** The example of README.md uses every call, and the class gives the answers that are told there. */
public final class ReadmeTest {
    private static final Pattern MADE = Pattern.compile("IntervalDesk desk = new IntervalDesk\\((-?\\d+)\\);");
    private static final Pattern CALL = Pattern.compile("desk\\.(\\w+)\\(([-\\d, ]*)\\); +// (-?\\d+): .+");
    private static IntervalDesk desk = null;
    private static final Set<String> used = new TreeSet<>();
    private static int wrong = 0;

    public static void main(String[] args) throws IOException, ReflectiveOperationException {
        boolean inExample = false;
        for (String line : Files.readAllLines(Path.of("README.md"))) {
            if (line.startsWith("```")) {
                inExample = line.equals("```java");
            } else if (inExample) {
                checkLine(line);
            }
        }
        checkAllUsed();
        System.out.println(wrong == 0 ? "the example is as due" : wrong + " things are not as due");
        if (wrong != 0) {
            System.exit(1);
        }
    }

    private static void fault(String what) {
        wrong++;
        System.out.println(what);
    }

    // A line of another form would go unchecked, so it is a fault.
    private static void checkLine(String line) throws ReflectiveOperationException {
        Matcher made = MADE.matcher(line);
        Matcher call = CALL.matcher(line);
        if (made.matches()) {
            desk = new IntervalDesk(Integer.parseInt(made.group(1)));
        } else if (desk != null && call.matches()) {
            checkCall(line, call.group(1), call.group(2), Integer.parseInt(call.group(3)));
        } else {
            fault("neither a new object nor a call with its answer: " + line);
        }
    }

    private static void checkCall(String line, String name, String listed, int want)
            throws ReflectiveOperationException {
        List<String> parts = listed.isEmpty() ? List.of() : List.of(listed.split(", "));
        Object[] values = new Object[parts.size()];
        Class<?>[] types = new Class<?>[parts.size()];
        for (int p = 0; p < values.length; p++) {
            values[p] = Integer.parseInt(parts.get(p));
            types[p] = int.class;
        }
        int got = (int) IntervalDesk.class.getMethod(name, types).invoke(desk, values);
        used.add(name);
        if (got != want) {
            fault("answered " + got + ": " + line);
        }
    }

    private static void checkAllUsed() {
        for (Method m : IntervalDesk.class.getDeclaredMethods()) {
            if (Modifier.isPublic(m.getModifiers()) && !used.contains(m.getName())) {
                fault("the example has no call of " + m.getName());
            }
        }
    }
}
