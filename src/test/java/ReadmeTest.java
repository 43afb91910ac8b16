import java.io.IOException;
import java.lang.reflect.Method;
import java.lang.reflect.Modifier;
import java.nio.file.Files;
import java.nio.file.Path;
import java.util.List;
import java.util.Set;
import java.util.TreeSet;
import java.util.regex.Matcher;
import java.util.regex.Pattern;

/** README.md: its calls, made one behind the other on one object, answer what stands behind them; it tells every call. */
public final class ReadmeTest {
    private static final Due due = new Due("ReadmeTest");

    private static final Pattern CALL = Pattern.compile("x\\.(\\w+)\\(([-0-9, ]*)\\); *// (-?[0-9]+|BAD|NO|FULL|NONE)(,.*)?");
    private static final Pattern TELL = Pattern.compile("tell\\(x, \"(.*)\"\\);");
    private static final Pattern ROW = Pattern.compile("\\| `(\\w+)\\(([a-z, ]*)\\)` \\|.*");

    public static void main(String[] args) throws IOException, ReflectiveOperationException {
        List<String> lines = Files.readAllLines(Path.of("README.md"));
        examples(lines);
        rows(lines);
        due.end();
    }

    private static void examples(List<String> lines) throws ReflectiveOperationException {
        HeartPins x = null;
        int calls = 0;
        Set<String> shown = new TreeSet<>();
        for (String line : lines) {
            Matcher call = CALL.matcher(line);
            Matcher tell = TELL.matcher(line);
            if (line.equals("HeartPins x = new HeartPins();")) {
                x = new HeartPins();
                calls = 0;
            } else if (tell.matches()) {
                for (char letter : tell.group(1).toCharArray()) {
                    x.write(letter);
                    calls++;
                }
            } else if (call.matches()) {
                due.is(line, answer(x, call.group(1), numbers(call.group(2))), number(call.group(3)));
                shown.add(call.group(1));
                calls++;
            } else {
                due.is("a line that this test can read: " + line, line.startsWith("x.") ? 0 : 1, 1);
            }
        }
        due.is("the calls of the page are 512 at most: " + calls, calls <= 512 ? 1 : 0, 1);
        for (Method method : face()) {
            due.is("an example of " + method.getName(), shown.contains(method.getName()) ? 1 : 0, 1);
        }
    }

    private static void rows(List<String> lines) {
        Set<String> told = new TreeSet<>();
        for (String line : lines) {
            Matcher row = ROW.matcher(line);
            if (row.matches()) {
                told.add(row.group(1) + " " + (row.group(2).isEmpty() ? 0 : row.group(2).split(",").length));
            }
        }
        for (Method method : face()) {
            String name = method.getName() + " " + method.getParameterCount();
            due.is("a row that tells of " + name, told.remove(name) ? 1 : 0, 1);
        }
        due.is("rows of no call: " + told, told.size(), 0);
    }

    private static List<Method> face() {
        return java.util.Arrays.stream(HeartPins.class.getDeclaredMethods())
            .filter(method -> Modifier.isPublic(method.getModifiers())).toList();
    }

    private static int answer(HeartPins x, String name, Object[] numbers) throws ReflectiveOperationException {
        Class<?>[] types = new Class<?>[numbers.length];
        java.util.Arrays.fill(types, int.class);
        return (Integer) HeartPins.class.getMethod(name, types).invoke(x, numbers);
    }

    private static Object[] numbers(String list) {
        if (list.isBlank()) {
            return new Object[0];
        }
        return java.util.Arrays.stream(list.split(",")).map(String::trim).map(Integer::valueOf).toArray();
    }

    private static int number(String word) throws ReflectiveOperationException {
        return Character.isLetter(word.charAt(0)) ? HeartPins.class.getField(word).getInt(null) : Integer.parseInt(word);
    }
}
