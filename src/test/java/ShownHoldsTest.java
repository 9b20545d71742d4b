import java.util.Random;

/**
 * What the document says of all INPUTS, held against many texts (always the same ones): no RUN of what is SHOWN BREAKS,
 * and the FORMULAS tell what RUNS count. Two PROGRAMS with small numbers never come to the bounds of INPUTS and LINES,
 * so that nothing else can break them.
 */
public final class ShownHoldsTest {
    private static final Check CHECK = new Check();
    private static final int TRIES = 60000, DEEPEST = 3, FARTHEST = 4;
    private static final int LEAST_SEEN = 500;

    private final Random random = new Random(16);
    private int shown;
    private int withFormulas;
    private int withRuns;

    private ShownHoldsTest() {
    }

    public static void main(String[] args) {
        ShownHoldsTest test = new ShownHoldsTest();
        for (int n = 0; n < TRIES; n++) {
            test.tryTwo();
        }
        CHECK.due("enough texts of DEGREE 2 and more are SHOWN", test.shown >= LEAST_SEEN ? 1 : 0, 1);
        CHECK.due("enough of them have FORMULAS", test.withFormulas >= LEAST_SEEN ? 1 : 0, 1);
        CHECK.due("enough of them run another", test.withRuns >= LEAST_SEEN ? 1 : 0, 1);
        CHECK.end();
    }

    private void tryTwo() {
        CostFormulas x = new CostFormulas();
        for (int n = 0; n < 2; n++) {
            String text = statement("", x.told(0)) + (random.nextInt(4) == 0 ? statement("", x.told(0)) : "");
            int program = Check.read(x, text);
            CHECK.due("read '" + text + "'", program, x.told(0) - 1);
            int a = random.nextInt(9);
            int b = random.nextInt(9);
            if (x.judge(program, a, b) == 1 && x.degree(program) >= 2) {
                shown++;
                withFormulas += x.shown(program, 2);
                withRuns += text.contains("run") ? 1 : 0;
                holds(x, program, text, a, b);
            }
        }
    }

    private void holds(CostFormulas x, int program, String text, int startA, int startB) {
        for (int n = 0; n < 3; n++) {
            int a = startA + random.nextInt(FARTHEST + 1);
            int b = startB + random.nextInt(FARTHEST + 1);
            for (int kind = 0; kind < 2; kind++) {
                String what = "'" + text + "' from " + startA + ", " + startB + " with " + a + ", " + b;
                long counted = x.count(program, kind, a, b);
                CHECK.due("it BREAKS: " + what, counted == CostFormulas.BROKEN ? 1 : 0, 0);
                if (x.shown(program, 2) == 1 && counted != CostFormulas.SPENT) {
                    CHECK.due("steps of " + what, x.steps(program, kind, a, b), counted);
                }
            }
        }
    }

    private String statement(String around, int programs) {
        int sort = random.nextInt(6);
        if (sort < 3 && around.length() < DEEPEST) {
            char name = "ijk".charAt(around.length());
            String first = line(around);
            // Mostly a second LINE that is likely not to be less.
            String second = random.nextInt(3) == 0 ? line(around) : first + "+" + line(around);
            return "for " + name + "=" + first + ".." + second + "{" + statement(around + name, programs) + "}";
        }
        if (sort == 3 && programs > 0) {
            return "run " + random.nextInt(programs) + "(" + line(around) + "," + line(around) + ");";
        }
        return "wx".charAt(random.nextInt(2)) + " " + line(around) + ";";
    }

    private String line(String around) {
        String names = "ab" + around;
        StringBuilder line = new StringBuilder();
        for (int parts = 1 + random.nextInt(3); parts > 0; parts--) {
            int sort = random.nextInt(4);
            if (sort < 2) {
                line.append(sort == 0 ? random.nextInt(4) : 1 + random.nextInt(2)).append(sort == 0 ? "" : "*");
            }
            line.append(sort == 0 ? "" : names.charAt(random.nextInt(names.length())));
            line.append(parts == 1 ? "" : random.nextInt(2) == 0 ? "-" : "+");
        }
        return line.toString();
    }
}
