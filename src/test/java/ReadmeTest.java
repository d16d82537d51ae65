import java.io.IOException;
import java.lang.reflect.Field;
import java.lang.reflect.Method;
import java.lang.reflect.Modifier;
import java.nio.file.Files;
import java.nio.file.Path;
import java.util.Arrays;
import java.util.TreeSet;
import java.util.regex.Matcher;
import java.util.regex.Pattern;

/** README.md tells the truth: its example answers what it says there, and it names the whole face. */
public final class ReadmeTest {
    private static final Pattern EXAMPLE_CALL =
            Pattern.compile("^robot\\.(\\w+)\\(([^)]*)\\); +// (-?\\d+):", Pattern.MULTILINE);
    private static final Pattern TABLE_CALL = Pattern.compile("^\\| `(\\w+)\\(([^)]*)\\)` \\|", Pattern.MULTILINE);

    private static final Check check = new Check();

    public static void main(String[] args) throws IOException, ReflectiveOperationException {
        String page = Files.readString(Path.of("README.md"));
        example(page);
        calls(page);
        constants(page);
        check.end();
    }

    private static void example(String page) throws ReflectiveOperationException {
        check.part("README.md, the example");
        CostmapNavigator robot = new CostmapNavigator();
        int calls = 0;
        for (Matcher line = EXAMPLE_CALL.matcher(page); line.find(); calls++) {
            Object answer = answer(robot, line.group(1), numbers(line.group(2)));
            check.due(line.group(1) + "(" + line.group(2) + ")", answer.toString(), line.group(3));
        }
        check.due("calls whose answer is told", calls, page.split("\nrobot\\.", -1).length - 1);
        check.due("there is an example", calls > 0, true);
    }

    private static Object answer(CostmapNavigator robot, String name, Object[] numbers)
            throws ReflectiveOperationException {
        Class<?>[] types = new Class<?>[numbers.length];
        Arrays.fill(types, int.class);
        return CostmapNavigator.class.getMethod(name, types).invoke(robot, numbers);
    }

    private static Object[] numbers(String list) {
        return Pattern.compile("-?\\d+").matcher(list).results().map(n -> Integer.valueOf(n.group())).toArray();
    }

    private static void calls(String page) {
        check.part("README.md, the calls");
        TreeSet<String> named = new TreeSet<>();
        for (Matcher row = TABLE_CALL.matcher(page); row.find();) {
            named.add(row.group(1) + "(" + row.group(2).replaceAll("int \\w+,? ?", "i") + ")");
        }
        TreeSet<String> face = new TreeSet<>();
        for (Method method : CostmapNavigator.class.getDeclaredMethods()) {
            if (Modifier.isPublic(method.getModifiers())) {
                face.add(method.getName() + "(" + "i".repeat(method.getParameterCount()) + ")");
            }
        }
        check.due("the calls it names", named.toString(), face.toString());
    }

    private static void constants(String page) throws ReflectiveOperationException {
        check.part("README.md, the constants");
        for (Field field : CostmapNavigator.class.getFields()) {
            String row = "\n| `CostmapNavigator." + field.getName() + "` | " + field.getInt(null) + " |";
            check.due("a row for " + field.getName(), page.contains(row), true);
        }
    }
}
