import java.io.IOException;
import java.lang.reflect.Field;
import java.lang.reflect.Method;
import java.lang.reflect.Modifier;
import java.nio.file.Files;
import java.nio.file.Path;
import java.util.Arrays;
import java.util.Set;
import java.util.TreeSet;
import java.util.regex.Matcher;
import java.util.regex.Pattern;

/** The document's face, and those rules of LANGUAGE.md that can be looked up. */
public final class RulesTest {
    private static final Check CHECK = new Check();
    private static final Path SOURCE = Path.of("src/main/java/CostFormulas.java");
    private static final String[] FACE = {
        "int feed(int,int,int,int)", "int cut(int)", "int read()", "int drop()", "long count(int,int,int,int)",
        "int degree(int)", "int judge(int,int,int)", "int shown(int,int)", "long factor(int,int,int,int)",
        "long steps(int,int,int,int)", "int price(int,int)", "int compare(int,int)", "int overtakes(int,int,int)",
        "int grows(int)", "int told(int)"};

    public static void main(String[] args) throws IOException {
        face();
        classes();
        words();
        CHECK.end();
    }

    private static void face() {
        Set<String> found = new TreeSet<>();
        Set<String> names = new TreeSet<>();
        for (Method method : CostFormulas.class.getDeclaredMethods()) {
            if (Modifier.isPublic(method.getModifiers())) {
                String types = Arrays.toString(method.getParameterTypes()).replaceAll("[\\[\\] ]", "");
                found.add(method.getReturnType() + " " + method.getName() + "(" + types + ")");
                names.add(method.getName());
            }
        }
        CHECK.due("public methods " + found, found.equals(new TreeSet<>(Arrays.asList(FACE))) ? 1 : 0, 1);
        for (Method method : CostFormulas.class.getDeclaredMethods()) {
            boolean open = Modifier.isPublic(method.getModifiers());
            CHECK.due("rule 1: " + method, open || Modifier.isPrivate(method.getModifiers()) ? 1 : 0, 1);
            CHECK.due("rule 1: name of " + method, open || !names.contains(method.getName()) ? 1 : 0, 1);
        }
        Set<String> constants = new TreeSet<>();
        for (Field field : CostFormulas.class.getDeclaredFields()) {
            if (!Modifier.isPrivate(field.getModifiers())) {
                constants.add(field.getName());
            }
        }
        CHECK.due("constants " + constants, constants.equals(new TreeSet<>(Arrays.asList(
            "BAD", "NONE", "NOT", "SPENT", "BROKEN", "FULL", "TOO_GREAT"))) ? 1 : 0, 1);
        CHECK.due("BAD", CostFormulas.BAD, -1);
        CHECK.due("NONE", CostFormulas.NONE, -2);
        CHECK.due("NOT", CostFormulas.NOT, -3);
        CHECK.due("SPENT", CostFormulas.SPENT, -4);
        CHECK.due("BROKEN", CostFormulas.BROKEN, -5);
        CHECK.due("FULL", CostFormulas.FULL, -6);
        CHECK.due("TOO_GREAT", CostFormulas.TOO_GREAT, -9000000000000000000L);
        CHECK.due("final", Modifier.isFinal(CostFormulas.class.getModifiers()) ? 1 : 0, 1);
    }

    private static void classes() {
        Class<?>[] inside = CostFormulas.class.getDeclaredClasses();
        CHECK.due("rule 11: classes", inside.length <= 12 ? 1 : 0, 1);
        for (Class<?> one : inside) {
            CHECK.due("rule 2: " + one, Modifier.isStatic(one.getModifiers()) ? 1 : 0, 1);
            for (Method method : one.getDeclaredMethods()) {
                CHECK.due("rule 11: " + method, method.getParameterCount() <= 7 ? 1 : 0, 1);
            }
        }
    }

    private static void words() throws IOException {
        String source = Files.readString(SOURCE).replaceAll("(?s)/\\*.*?\\*/|//[^\n]*", "");
        String[] none = {"\\b(throw|throws|try|catch|synchronized|assert|instanceof|var)\\b", "->", "::",
            "\\bimport (?!java\\.util\\.Arrays;)", "Exact\\(", "\\bpackage\\b", "\\bstatic \\{",
            "\\bSystem\\.(?!arraycopy)", "\\bMath\\.(?!max|min|abs)", "\\bArrays\\.(?!fill)", "\\bfloat\\b|\\bdouble\\b"};
        for (String pattern : none) {
            Matcher m = Pattern.compile(pattern).matcher(source);
            CHECK.due("the source has " + pattern, m.find() ? 1 : 0, 0);
        }
    }
}
