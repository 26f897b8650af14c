import java.lang.reflect.Method;
import java.lang.reflect.Modifier;
import java.nio.file.Files;
import java.nio.file.Path;
import java.util.regex.Matcher;
import java.util.regex.Pattern;

/** Makes the calls of README.md's example, and holds them against the answers that it tells behind them. */
public final class ReadmeTest {
    private static final Path README = Path.of("README.md");
    private static final Pattern CALL = Pattern.compile("house\\.(\\w+)\\((.*)\\); +// (-?\\d+|true|false)(:.*)?");

    private ReadmeTest() {
    }

    public static void main(String[] args) throws Exception {
        Due due = new Due("ReadmeTest");
        String readme = Files.readString(README);
        CrossbarHouse house = new CrossbarHouse();
        String example = readme.substring(readme.indexOf("```java") + 7);
        int calls = 0;
        for (String line : example.substring(0, example.indexOf("```")).strip().split("\n")) {
            Matcher call = CALL.matcher(line);
            if (call.matches()) {
                due.same(line, String.valueOf(answerOf(house, call.group(1), call.group(2))).equals(call.group(3)), true);
                calls++;
            } else {
                due.same(line, line.equals("CrossbarHouse house = new CrossbarHouse();"), true);
            }
        }
        due.same("there are calls", calls > 0, true);
        for (Method method : CrossbarHouse.class.getDeclaredMethods()) {
            if (Modifier.isPublic(method.getModifiers())) {
                String cell = "`" + method.getName() + "`";
                due.same(cell + " is in the table", readme.lines().anyMatch(l -> l.startsWith("| `") && l.contains(cell)), true);
            }
        }
        due.end();
    }

    private static Object answerOf(CrossbarHouse house, String name, String told) throws ReflectiveOperationException {
        String[] parts = told.split(", ");
        Object[] numbers = new Object[parts.length];
        Class<?>[] types = new Class<?>[parts.length];
        for (int k = 0; k < parts.length; k++) {
            numbers[k] = parts[k].equals("CrossbarHouse.NONE") ? Integer.valueOf(CrossbarHouse.NONE) : Integer.decode(parts[k]);
            types[k] = int.class;
        }
        return CrossbarHouse.class.getMethod(name, types).invoke(house, numbers);
    }
}
