import java.io.IOException;
import java.lang.reflect.InvocationTargetException;
import java.lang.reflect.Method;
import java.nio.file.Files;
import java.nio.file.Path;
import java.util.regex.Matcher;
import java.util.regex.Pattern;

/** The run of calls in README.md answers what its comments say. Started where README.md is. */
public final class ReadmeTest {
    private static final Pattern CALL = Pattern.compile("ledger\\.(\\w+)\\(([^)]*)\\);\\s*// (\\S+).*");

    public static void main(String[] args) throws IOException, IllegalAccessException {
        Checks checks = new Checks();
        StakeLedger x = new StakeLedger();
        int calls = 0;
        for (String line : Files.readAllLines(Path.of("README.md"))) {
            Matcher call = CALL.matcher(line);
            if (call.matches()) {
                calls++;
                String got = answer(x, method(call.group(1)), numbers(call.group(2)));
                checks.due(line, got, call.group(1).equals("keep") ? "null" : call.group(3).replace(":", ""));
            }
        }
        checks.due("calls in README.md", calls, 14);
        checks.end();
    }

    private static Method method(String name) {
        for (Method method : StakeLedger.class.getMethods()) {
            if (method.getName().equals(name)) {
                return method;
            }
        }
        throw new IllegalStateException("README.md names no call of the face: " + name);
    }

    private static Object[] numbers(String told) {
        if (told.isEmpty()) {
            return new Object[0];
        }
        String[] parts = told.split(", ");
        Object[] numbers = new Object[parts.length];
        for (int i = 0; i < parts.length; i++) {
            boolean bits = parts[i].startsWith("0b");
            numbers[i] = bits ? Integer.valueOf(parts[i].substring(2), 2) : Integer.valueOf(parts[i]);
        }
        return numbers;
    }

    private static String answer(StakeLedger x, Method method, Object[] in) throws IllegalAccessException {
        try {
            return "" + method.invoke(x, in);
        } catch (InvocationTargetException e) {
            return "throws." + e.getCause().getClass().getSimpleName();
        }
    }
}
