import java.io.IOException;
import java.lang.reflect.Method;
import java.lang.reflect.Modifier;
import java.nio.charset.StandardCharsets;
import java.nio.file.Files;
import java.nio.file.Path;
import java.util.Set;
import java.util.TreeSet;
import java.util.regex.Matcher;
import java.util.regex.Pattern;

/** That the calls in README.md answer what stands behind them there, and that it names every call. */
public final class ReadmeTest {
    private static final Path README = Path.of("README.md");
    private static final Pattern CALL = Pattern.compile("^ride\\.(\\w+)\\(([^)]*)\\);\\s+// (-?\\d+|true|false):.*");
    private static final Pattern TOLD = Pattern.compile("^tell\\(ride, \"([^\"]*)\"\\);\\s+// (-?\\d+):.*");

    public static void main(String[] args) throws ReflectiveOperationException, IOException {
        PathRide ride = new PathRide();
        Set<String> named = new TreeSet<>();
        int calls = 0;
        for (String line : Files.readAllLines(README, StandardCharsets.UTF_8)) {
            Matcher call = CALL.matcher(line);
            Matcher told = TOLD.matcher(line);
            if (line.equals("PathRide ride = new PathRide();")) {
                ride = new PathRide();
            } else if (call.matches()) {
                Desk.due(line, answer(ride, call.group(1), call.group(2)), call.group(3).equals("true") ? 1
                    : call.group(3).equals("false") ? 0 : Long.parseLong(call.group(3)));
                calls++;
            } else if (told.matches()) {
                Desk.due(line, Desk.tell(ride, told.group(1)), Long.parseLong(told.group(2)));
                calls++;
            } else {
                Desk.due(line + " is a call with its answer", line.startsWith("ride.") || line.startsWith("tell("), false);
            }
            nameCalls(line, named);
        }
        Desk.due("calls with answers in README.md: " + calls, calls >= 30, true);
        for (Method m : PathRide.class.getDeclaredMethods()) {
            if (Modifier.isPublic(m.getModifiers())) {
                Desk.due("README.md names " + m.getName(), named.contains(m.getName()), true);
            }
        }
        Desk.finish("ReadmeTest");
    }

    /** What stands between quotes in a row of a table. */
    private static void nameCalls(String line, Set<String> named) {
        Matcher m = Pattern.compile("`(\\w+)`").matcher(line);
        while (line.startsWith("| ") && m.find()) {
            named.add(m.group(1));
        }
    }

    private static long answer(PathRide ride, String name, String listed) throws ReflectiveOperationException {
        String[] parts = listed.isEmpty() ? new String[0] : listed.split(",\\s*");
        Object[] given = new Object[parts.length];
        Class<?>[] types = new Class<?>[parts.length];
        for (int i = 0; i < parts.length; i++) {
            given[i] = Long.decode(parts[i]).intValue();
            types[i] = int.class;
        }
        Object got = PathRide.class.getMethod(name, types).invoke(ride, given);
        return got instanceof Boolean ? ((Boolean) got ? 1 : 0) : (Integer) got;
    }
}
