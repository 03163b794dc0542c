import java.io.IOException;
import java.lang.reflect.Field;
import java.lang.reflect.Method;
import java.lang.reflect.Modifier;
import java.nio.file.Files;
import java.nio.file.Path;
import java.util.ArrayList;
import java.util.List;
import java.util.regex.Matcher;
import java.util.regex.Pattern;

/**
 * README.md tells the class as it is: its example answers what stands behind
 * each call, and its tables have each call with what it may throw. Run from
 * the directory that holds README.md.
 */
public final class ReadmeTest {
    /** fix.send(0, 31);   // 2: the number of the message */
    private static final Pattern EXAMPLE = Pattern.compile("fix\\.(\\w+)\\(([^)]*)\\); +// (\\w+):.*");
    /** | `send(side, key)` | .. | Index: no such side. State: .. | */
    private static final Pattern ROW = Pattern.compile("\\| `(\\w+)\\(([^)]*)\\)` \\|.*\\|([^|]*)\\|");
    private static final Pattern THROWN = Pattern.compile("(Index|Argument|State):");
    private static final Check check = new Check();

    public static void main(String[] args) throws IOException, ReflectiveOperationException {
        List<String> lines = Files.readAllLines(Path.of("README.md"));
        example(lines);
        calls(lines);
        constants(lines);
        check.end();
    }

    private static void example(List<String> lines) throws ReflectiveOperationException {
        check.sentence("the example of README.md");
        SessionFix fix = new SessionFix();
        int calls = 0;
        for (String line : lines) {
            Matcher matcher = EXAMPLE.matcher(line);
            if (matcher.matches()) {
                check.same(line, answer(fix, matcher.group(1), matcher.group(2)), matcher.group(3));
                calls++;
            } else {
                check.same(line + " is a call with its answer", line.startsWith("fix."), false);
            }
        }
        check.same("there is an example", calls > 0, true);
    }

    private static String answer(SessionFix fix, String name, String written) throws ReflectiveOperationException {
        String[] parts = written.isEmpty() ? new String[0] : written.split(", ");
        Class<?>[] types = new Class<?>[parts.length];
        Object[] arguments = new Object[parts.length];
        for (int i = 0; i < parts.length; i++) {
            types[i] = int.class;
            arguments[i] = Integer.valueOf(parts[i]);
        }
        return String.valueOf(SessionFix.class.getMethod(name, types).invoke(fix, arguments));
    }

    /** Each public method once, with as many arguments, and its exceptions in the order of its throws clause. */
    private static void calls(List<String> lines) {
        check.sentence("the tables of README.md");
        List<String> told = new ArrayList<>();
        for (String line : lines) {
            Matcher row = ROW.matcher(line);
            if (row.matches()) {
                int arguments = row.group(2).isEmpty() ? 0 : row.group(2).split(", ").length;
                told.add(row.group(1) + " of " + arguments + " throws " + thrownBy(row.group(3)));
            }
        }
        List<String> due = new ArrayList<>();
        for (Method method : SessionFix.class.getDeclaredMethods()) {
            if (Modifier.isPublic(method.getModifiers())) {
                due.add(method.getName() + " of " + method.getParameterCount() + " throws " + declaredBy(method));
            }
        }
        told.sort(null);
        due.sort(null);
        check.same("calls", String.join("\n", told), String.join("\n", due));
    }

    private static List<String> thrownBy(String cell) {
        List<String> thrown = new ArrayList<>();
        Matcher matcher = THROWN.matcher(cell);
        while (matcher.find()) {
            thrown.add(matcher.group(1));
        }
        return thrown;
    }

    private static List<String> declaredBy(Method method) {
        List<String> declared = new ArrayList<>();
        for (Class<?> type : method.getExceptionTypes()) {
            String name = type.getSimpleName();
            declared.add(name.startsWith("Index") ? "Index" : name.startsWith("IllegalA") ? "Argument" : "State");
        }
        return declared;
    }

    private static void constants(List<String> lines) throws IllegalAccessException {
        check.sentence("the constants of README.md");
        String page = String.join(" ", lines);
        for (Field field : SessionFix.class.getFields()) {
            String told = "`" + field.getName() + "` " + field.getInt(null);
            check.same(told + " is told", page.contains(told), true);
        }
    }
}
