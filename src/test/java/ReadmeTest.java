import java.io.IOException;
import java.lang.reflect.InvocationTargetException;
import java.lang.reflect.Method;
import java.nio.file.Files;
import java.nio.file.Path;
import java.util.Set;
import java.util.TreeSet;
import java.util.regex.Matcher;
import java.util.regex.Pattern;

/** The example in README.md, whose calls answer what stands behind them, and its list of calls. */
public final class ReadmeTest {
    private static final Pattern CALL =
            Pattern.compile("plain\\.(\\w+)\\(([^)]*)\\); +// (?:throws )?([\\w-]+): .*");
    private static final Pattern LISTED = Pattern.compile("`(\\w+)\\([^)]*\\)`");

    public static void main(String[] args) throws IOException {
        PressedPlains plain = new PressedPlains();
        Set<String> listed = new TreeSet<>();
        for (String line : Files.readAllLines(Path.of("README.md"))) {
            if (line.startsWith("plain.")) {
                Matcher call = CALL.matcher(line);
                if (call.matches()) {
                    Check.same(line, answer(plain, call.group(1), call.group(2)), call.group(3));
                } else {
                    Check.isTrue(line + " tells its answer", false);
                }
            } else if (line.startsWith("| `")) {
                LISTED.matcher(line).results().forEach(call -> listed.add(call.group(1)));
            }
        }
        Check.same("the list of calls", listed.toString(), face().toString());
        Check.end();
    }

    private static String answer(PressedPlains plain, String name, String numbers) {
        Object[] arguments = numbers.isEmpty() ? new Object[0]
                : Pattern.compile(", ").splitAsStream(numbers).map(Integer::valueOf).toArray();
        try {
            return String.valueOf(named(name).invoke(plain, arguments));
        } catch (InvocationTargetException e) {
            return e.getCause().getClass().getSimpleName();
        } catch (IllegalAccessException e) {
            throw new AssertionError(e);
        }
    }

    private static Method named(String name) {
        for (Method method : PressedPlains.class.getMethods()) {
            if (method.getName().equals(name)) {
                return method;
            }
        }
        throw new AssertionError("there is no call " + name);
    }

    private static Set<String> face() {
        Set<String> names = new TreeSet<>();
        for (Method method : PressedPlains.class.getMethods()) {
            if (method.getDeclaringClass() == PressedPlains.class) {
                names.add(method.getName());
            }
        }
        return names;
    }
}
