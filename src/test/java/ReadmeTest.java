import java.io.IOException;
import java.lang.reflect.Method;
import java.lang.reflect.Modifier;
import java.nio.file.Files;
import java.nio.file.Path;
import java.util.Arrays;
import java.util.List;
import java.util.Set;
import java.util.TreeSet;
import java.util.regex.Matcher;
import java.util.regex.Pattern;

/** README.md: what it shows of answers and codes is what the class answers, and no call is left out. */
public final class ReadmeTest {
    private static final String NEW_OBJECT = "CellNets x = new CellNets();";
    private static final Pattern CALL =
        Pattern.compile("x\\.(\\w+)\\(([-\\d, ]*)\\);\\s*(?:// (-?\\d+|[A-Z_]+)(?:: .*)?)?");
    private static final Pattern CODE = Pattern.compile("\\| `([A-Z_]+)` \\| (-?\\d+) \\|.*");
    private static final Pattern ROW = Pattern.compile("\\| `(\\w+)\\(.*");

    private final Set<String> shownCalls = new TreeSet<>();
    private final Set<String> tabledCalls = new TreeSet<>();
    private final Set<String> tabledCodes = new TreeSet<>();
    private CellNets x;

    private static Set<String> publicCalls() {
        Set<String> names = new TreeSet<>();
        for (Method m : CellNets.class.getDeclaredMethods()) {
            if (Modifier.isPublic(m.getModifiers())) {
                names.add(m.getName());
            }
        }
        return names;
    }

    private static int code(String name) throws ReflectiveOperationException {
        return CellNets.class.getField(name).getInt(null);
    }

    private static int due(String shown) throws ReflectiveOperationException {
        return Character.isUpperCase(shown.charAt(0)) ? code(shown) : Integer.parseInt(shown);
    }

    private static Object[] numbers(String list) {
        if (list.isBlank()) {
            return new Object[0];
        }
        return Pattern.compile(", ").splitAsStream(list).map(Integer::valueOf).toArray();
    }

    private Object call(String name, Object[] arguments) throws ReflectiveOperationException {
        Class<?>[] types = new Class<?>[arguments.length];
        Arrays.fill(types, int.class);
        return CellNets.class.getMethod(name, types).invoke(x, arguments);
    }

    private void codeLine(String line) throws ReflectiveOperationException {
        if (line.equals(NEW_OBJECT)) {
            x = new CellNets();
            return;
        }
        Matcher m = CALL.matcher(line);
        if (!m.matches()) {
            Check.same("a line of code", line, "a call that can be compared");
            return;
        }
        shownCalls.add(m.group(1));
        Object got = call(m.group(1), numbers(m.group(2)));
        if (got == null || m.group(3) == null) {
            Check.same("what is shown of " + line, String.valueOf(m.group(3)), String.valueOf(got));
        } else {
            Check.due(line, (Integer) got, due(m.group(3)));
        }
    }

    private void tableLine(String line) throws ReflectiveOperationException {
        Matcher m = CODE.matcher(line);
        if (m.matches()) {
            tabledCodes.add(m.group(1));
            Check.due(m.group(1), code(m.group(1)), Integer.parseInt(m.group(2)));
        }
        Matcher row = ROW.matcher(line);
        if (row.matches()) {
            tabledCalls.add(row.group(1));
        }
    }

    private void read(List<String> lines) throws ReflectiveOperationException {
        boolean isCode = false;
        for (String line : lines) {
            if (line.startsWith("```")) {
                isCode = line.equals("```java");
            } else if (isCode) {
                codeLine(line);
            } else {
                tableLine(line);
            }
        }
    }

    public static void main(String[] args) throws IOException, ReflectiveOperationException {
        ReadmeTest t = new ReadmeTest();
        Check.sentence("what it shows of answers is what the class answers");
        t.read(Files.readAllLines(Path.of("README.md")));
        Check.sentence("how to use the class");
        Check.same("calls in the code", t.shownCalls.toString(), publicCalls().toString());
        Check.same("calls in the table", t.tabledCalls.toString(), publicCalls().toString());
        Check.same("codes in the table", t.tabledCodes.toString(), "[BAD_ARG, FULL, NONE, TIRED]");
        Check.end();
    }
}
