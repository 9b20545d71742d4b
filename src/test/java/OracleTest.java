import java.util.Random;

/** Runs of calls with random texts (always the same ones), each answer held against the Oracle's. */
public final class OracleTest {
    private static final Check CHECK = new Check();
    private static final int RUNS = 400, CALLS = 120;
    private static final int GREAT_RUNS = 25, GREAT_CALLS = 60;

    private final Random random;
    private final CostFormulas x = new CostFormulas();
    private final Oracle oracle = new Oracle();
    private final String name;
    /** Mild texts are mostly SHOWN, others seldom. */
    private final boolean mild;

    private OracleTest(int run) {
        random = new Random(run);
        name = "run " + run + ": ";
        mild = run % 2 == 0;
    }

    public static void main(String[] args) {
        int runs = args.length > 0 ? Integer.parseInt(args[0]) : RUNS;
        for (int run = 0; run < runs; run++) {
            OracleTest test = new OracleTest(run);
            for (int call = 0; call < CALLS; call++) {
                test.callOne();
            }
        }
        for (int run = 0; run < GREAT_RUNS; run++) {
            new OracleTest(1000000 + run).greatRun();
        }
        CHECK.end();
    }

    private int below(int n) {
        return random.nextInt(n);
    }

    private void due(String call, long got, long want) {
        CHECK.due(name + call, got, want);
    }

    /** Mostly a number that is right, at times one that is not. */
    private int pick(int least, int most) {
        if (below(25) == 0) {
            return new int[] {least - 1, most + 1, -1, Integer.MAX_VALUE, Integer.MIN_VALUE}[below(5)];
        }
        return least + below(most - least + 1);
    }

    private int program() {
        return pick(0, Math.max(0, x.told(0) - 1));
    }

    private int input() {
        return below(3) == 0 ? pick(0, 1000) : pick(0, 12);
    }

    private void callOne() {
        int p = program();
        int q = program();
        int kind = pick(0, 3);
        int a = input();
        int b = input();
        switch (below(16)) {
            case 0: case 1: case 2:
                readText();
                break;
            case 3:
                due("count " + p + " " + kind + " " + a + " " + b, x.count(p, kind, a, b), oracle.count(p, kind, a, b));
                break;
            case 4: case 5: case 6:
                judgeSome(p);
                break;
            case 7:
                factorsOf(p, kind);
                break;
            case 8:
                int k = pick(-1, 3);
                due("steps " + p + " " + k + " " + a + " " + b, x.steps(p, k, a, b), oracle.steps(p, k, a, b));
                break;
            case 9:
                int cost = below(3) == 0 ? pick(0, 1000) : pick(0, 9);
                due("price " + kind + " " + cost, x.price(kind, cost), oracle.price(kind, cost));
                break;
            case 10: case 11:
                due("compare " + p + " " + q, x.compare(p, q), oracle.compare(p, q));
                break;
            case 12: case 13:
                due("overtakes " + p + " " + q + " " + b, x.overtakes(p, q, b), oracle.overtakes(p, q, b));
                break;
            case 14:
                due("grows " + p, x.grows(p), oracle.grows(p));
                break;
            default:
                small(p);
                break;
        }
    }

    private void small(int p) {
        int what = pick(0, 5);
        due("told " + what, x.told(what), oracle.told(what));
        due("degree " + p, x.degree(p), oracle.degree(p));
        int which = pick(0, 2);
        due("shown " + p + " " + which, x.shown(p, which), oracle.shown(p, which));
        if (below(3) == 0) {
            due("drop", x.drop(), oracle.drop());
        }
    }

    private void judgeSome(int p) {
        int most = Math.max(0, x.told(0) - 1);
        for (int n = 0; n <= most; n++) {
            int a = pick(0, below(2) == 0 ? 2 : 8);
            int b = pick(0, below(2) == 0 ? 2 : 8);
            int number = below(6) == 0 ? p : n;
            due("judge " + number + " " + a + " " + b, x.judge(number, a, b), oracle.judge(number, a, b));
        }
        due("shown " + p + " 2", x.shown(p, 2), oracle.shown(p, 2));
    }

    private void factorsOf(int p, int kind) {
        for (int n = 0; n < 6; n++) {
            int i = pick(0, 5);
            int j = pick(0, below(2) == 0 ? 0 : 5);
            due("factor " + p + " " + kind + " " + i + " " + j, x.factor(p, kind, i, j), oracle.factor(p, kind, i, j));
        }
    }

    private void readText() {
        StringBuilder text = new StringBuilder();
        statements(text, "", 1 + below(4), 5);
        if (below(mild ? 40 : 8) == 0) {
            spoil(text);
        }
        feedText(text);
        if (below(10) == 0) {
            int n = pick(0, x.told(1));
            due("cut " + n, x.cut(n), oracle.cut(n));
        }
        due("read '" + text + "'", x.read(), oracle.read());
    }

    private void feedText(StringBuilder text) {
        for (int from = 0; from < text.length(); from += 16) {
            int[] four = new int[4];
            for (int n = 0; n < 16; n++) {
                four[n / 4] = four[n / 4] << 8 | (from + n < text.length() ? text.charAt(from + n) : ' ');
            }
            due("feed", x.feed(four[0], four[1], four[2], four[3]), oracle.feed(four));
        }
    }

    /** PROGRAMS that run one another come to numbers near 10^18. */
    private void greatRun() {
        int a = below(3);
        int b = below(3);
        for (int n = 0; n < 6; n++) {
            StringBuilder text = new StringBuilder();
            greatText(text);
            feedText(text);
            due("read '" + text + "'", x.read(), oracle.read());
            a = Math.min(8, a + below(2));
            b = Math.min(8, b + below(2));
            due("judge " + n + " " + a + " " + b, x.judge(n, a, b), oracle.judge(n, a, b));
        }
        for (int call = 0; call < GREAT_CALLS; call++) {
            greatCall(below(6), below(6), a + below(below(2) == 0 ? 4 : 900), b + below(below(2) == 0 ? 4 : 900));
        }
    }

    private void greatCall(int p, int q, int a, int b) {
        switch (below(6)) {
            case 0:
                int kind = below(2);
                int cost = below(1001);
                due("price " + kind + " " + cost, x.price(kind, cost), oracle.price(kind, cost));
                break;
            case 1:
                due("grows " + p, x.grows(p), oracle.grows(p));
                break;
            case 2:
                due("compare " + p + " " + q, x.compare(p, q), oracle.compare(p, q));
                break;
            case 3:
                due("overtakes " + p + " " + q + " " + b, x.overtakes(p, q, b), oracle.overtakes(p, q, b));
                break;
            case 4:
                int k = below(3) - 1;
                due("steps " + p + " " + k + " " + a + " " + b, x.steps(p, k, a, b), oracle.steps(p, k, a, b));
                break;
            default:
                factorsOf(p, 0);
                break;
        }
    }

    /** Steps of some 10^11 at a time in the first PROGRAM; later ones run the latest many times. */
    private void greatText(StringBuilder text) {
        if (x.told(0) == 0 || below(5) == 0) {
            String j = "99*i+99*i+99*i+99*i+99*i+99*i+99*i+99*i";
            text.append("for i=99..99{for j=").append(j).append("..").append(j);
            text.append("{for k=99*j..99*j{for l=99*k+1..99*k+").append("ab".charAt(below(2))).append("{");
            text.append("w99*l;".repeat(1 + below(6))).append("}}}}x a;");
        } else {
            text.append(("run " + (x.told(0) - 1) + "(a,b);").repeat(1 + below(below(2) == 0 ? 4 : 20)));
        }
    }

    private void spoil(StringBuilder text) {
        String bytes = "wxyzabijklm0123456789..=+-*;(),{} \n#A\u00ff";
        for (int n = below(2); n >= 0 && text.length() > 0; n--) {
            char code = bytes.charAt(below(bytes.length()));
            int at = below(text.length());
            switch (below(3)) {
                case 0:
                    text.setCharAt(at, code);
                    break;
                case 1:
                    text.insert(at, code);
                    break;
                default:
                    text.deleteCharAt(at);
                    break;
            }
        }
    }

    private void statements(StringBuilder text, String around, int many, int deep) {
        for (int n = 0; n < many; n++) {
            int sort = below(10);
            if (sort < 4 && deep > 1) {
                loop(text, around, deep);
            } else if (sort < 6 && x.told(0) > 0) {
                text.append("run ").append(below(x.told(0) + (below(30) == 0 ? 1 : 0))).append('(');
                line(text, around, false);
                text.append(',');
                line(text, around, false);
                text.append(");");
            } else {
                text.append("wxyz".charAt(below(4)));
                if (below(2) == 0) {
                    text.append(' ');
                    line(text, around, false);
                }
                text.append(';');
            }
        }
    }

    private void loop(StringBuilder text, String around, int deep) {
        char name = "ijklm".charAt(below(5));
        if (around.indexOf(name) >= 0 && below(20) != 0) {
            name = "ijklm".charAt(around.length() % 5);
        }
        text.append("for ").append(name).append('=');
        StringBuilder first = new StringBuilder();
        line(first, around, true);
        text.append(first).append("..");
        if ((mild || below(3) > 0) && first.length() < 12) {
            text.append(first).append('+');
        }
        line(text, around, below(3) == 0);
        text.append('{');
        statements(text, around + name, mild ? 1 + below(2) : below(3), deep - 1);
        text.append('}');
    }

    private void line(StringBuilder text, String around, boolean small) {
        String names = "ab" + around;
        int parts = 1 + (small ? 0 : below(below(10) == 0 ? 9 : 3));
        for (int n = 0; n < parts; n++) {
            if (n > 0) {
                text.append(below(mild ? 12 : 4) == 0 ? '-' : '+');
            }
            int sort = below(3);
            if (sort != 1) {
                text.append(below(8) == 0 ? below(100) : below(4));
            }
            if (sort == 2) {
                text.append('*');
            }
            if (sort != 0) {
                text.append(names.charAt(below(names.length())));
            }
        }
    }
}
