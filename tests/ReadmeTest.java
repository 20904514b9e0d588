import java.io.IOException;
import java.lang.reflect.InvocationTargetException;
import java.lang.reflect.Method;
import java.lang.reflect.Modifier;
import java.nio.file.Files;
import java.nio.file.Path;
import java.util.Arrays;
import java.util.TreeSet;
import java.util.regex.Matcher;
import java.util.regex.Pattern;

/** The run of calls in README.md answers what stands there. It is run from the project's folder. */
public final class ReadmeTest {
    private static final Pattern CALL = Pattern.compile("    x\\.(\\w+)\\((.*)\\); +// (throws )?([\\w.]+?)(:.*)?");
    private static final Pattern ROW = Pattern.compile("\\| `(\\w+)\\(([^)]*)\\)` \\|.*");

    private static int wrong = 0;

    public static void main(String[] args) throws IOException, ReflectiveOperationException {
        int calls = 0;
        TreeSet<String> rows = new TreeSet<>();
        TokenReviews x = new TokenReviews();
        for (String line : Files.readAllLines(Path.of("README.md"))) {
            Matcher call = CALL.matcher(line);
            if (call.matches()) {
                calls++;
                String due = call.group(3) == null ? call.group(4) : "throws " + call.group(4);
                String got = answer(x, call.group(1), call.group(2));
                if (!got.equals(due)) {
                    fail(line.strip() + " .. but it answers " + got);
                }
            } else if (line.startsWith("    x.")) {
                fail("no answer stands behind " + line.strip());
            }
            Matcher row = ROW.matcher(line);
            if (row.matches()) {
                rows.add(row.group(1) + " " + parts(row.group(2)).length);
            }
        }
        TreeSet<String> methods = new TreeSet<>();
        for (Method method : TokenReviews.class.getDeclaredMethods()) {
            if (Modifier.isPublic(method.getModifiers())) {
                methods.add(method.getName() + " " + method.getParameterCount());
            }
        }
        for (String method : methods) {
            if (!rows.remove(method)) {
                fail("no row for the method and its number of arguments: " + method);
            }
        }
        for (String row : rows) {
            fail("a row without a method: " + row);
        }
        if (calls < 20) {
            fail("only " + calls + " calls found");
        }
        System.out.println("ReadmeTest: " + calls + " calls, " + methods.size() + " rows, " + wrong + " not as due");
        if (wrong != 0) {
            System.exit(1);
        }
    }

    private static void fail(String text) {
        wrong++;
        System.out.println("ReadmeTest: " + text);
    }

    private static String[] parts(String arguments) {
        return arguments.isEmpty() ? new String[0] : arguments.split(", ");
    }

    private static String answer(TokenReviews x, String name, String arguments) throws ReflectiveOperationException {
        String[] parts = parts(arguments);
        Class<?>[] types = new Class<?>[parts.length];
        Arrays.fill(types, int.class);
        Object[] values = new Object[parts.length];
        for (int i = 0; i < parts.length; i++) {
            values[i] = parts[i].startsWith("'") ? (int) parts[i].charAt(1) : Integer.parseInt(parts[i]);
        }
        try {
            return String.valueOf(TokenReviews.class.getMethod(name, types).invoke(x, values));
        } catch (InvocationTargetException e) {
            return "throws " + e.getCause().getClass().getSimpleName();
        }
    }
}
