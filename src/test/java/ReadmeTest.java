import java.io.IOException;
import java.lang.reflect.InvocationTargetException;
import java.lang.reflect.Method;
import java.lang.reflect.Modifier;
import java.nio.file.Files;
import java.nio.file.Path;
import java.util.Set;
import java.util.TreeSet;
import java.util.regex.Matcher;
import java.util.regex.Pattern;

/** README.md tells every call, and its example answers what stands behind its calls. */
public final class ReadmeTest {
    private static final Check CHECK = new Check();
    private static final Pattern CALL = Pattern.compile("(?m)^x\\.(\\w+)\\((.*?)\\);\\s*// (-?\\d+)");
    private static final Pattern LINE = Pattern.compile("(?m)^x\\.");
    private static final Pattern ROW = Pattern.compile("(?m)^\\| `(\\w+)\\((.*?)\\)` \\| [^|]+ \\| [^|]+ \\|$");

    private ReadmeTest() {
    }

    public static void main(String[] args) throws IOException, ReflectiveOperationException {
        String readme = Files.readString(Path.of("README.md"));
        CHECK.due("calls told with refusals: " + face(), told(readme).equals(face()) ? 1 : 0, 1);
        example(readme);
        CHECK.end();
    }

    /** Each method's name with the number of its parameters. */
    private static Set<String> face() {
        Set<String> face = new TreeSet<>();
        for (Method method : CostFormulas.class.getDeclaredMethods()) {
            if (Modifier.isPublic(method.getModifiers())) {
                face.add(method.getName() + " " + method.getParameterCount());
            }
        }
        return face;
    }

    private static Set<String> told(String readme) {
        Set<String> told = new TreeSet<>();
        for (Matcher row = ROW.matcher(readme); row.find();) {
            told.add(row.group(1) + " " + numbers(row.group(2)).length);
        }
        return told;
    }

    private static String[] numbers(String list) {
        return list.isEmpty() ? new String[0] : list.split(", ");
    }

    private static void example(String readme) throws ReflectiveOperationException {
        CostFormulas x = new CostFormulas();
        Set<String> called = new TreeSet<>();
        long calls = 0;
        for (Matcher call = CALL.matcher(readme); call.find(); calls++) {
            String[] numbers = numbers(call.group(2));
            called.add(call.group(1) + " " + numbers.length);
            CHECK.due("README: " + call.group(), answer(x, call.group(1), numbers), Long.parseLong(call.group(3)));
        }
        CHECK.due("lines of the example with an answer", calls, LINE.matcher(readme).results().count());
        CHECK.due("calls in the example: " + called, called.equals(face()) ? 1 : 0, 1);
    }

    private static long answer(CostFormulas x, String name, String[] numbers)
            throws NoSuchMethodException, IllegalAccessException, InvocationTargetException {
        Class<?>[] types = new Class<?>[numbers.length];
        Object[] values = new Object[numbers.length];
        for (int n = 0; n < numbers.length; n++) {
            types[n] = int.class;
            values[n] = Integer.decode(numbers[n]);
        }
        return ((Number) CostFormulas.class.getMethod(name, types).invoke(x, values)).longValue();
    }
}
