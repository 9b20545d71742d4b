/** What is refused changes nothing but THE TAPE: each refusal of each promise, with what is told before and after. */
public final class RefusalsTest {
    private static final Check CHECK = new Check();
    private static final int BAD = -1, NONE = -2, NOT = -3, SPENT = -4, BROKEN = -5, FULL = -6;
    private static final long TOO_GREAT = -9000000000000000000L;
    private static final int LEAST = Integer.MIN_VALUE, MOST = Integer.MAX_VALUE;

    private interface Call {
        long on(CostFormulas x);
    }

    public static void main(String[] args) {
        feedAndCut();
        readWithAFault();
        readThatIsFull();
        dropOfNone();
        count();
        degreeAndShown();
        judge();
        factor();
        steps();
        price();
        compare();
        overtakes();
        growsAndTold();
        CHECK.end();
    }

    /**
     * PROGRAM 0 has FORMULAS from 2, 1 on; 1 never was judged; 2 is SHOWN without FORMULAS; 3 is not SHOWN any more. A
     * text stands on THE TAPE.
     */
    private static CostFormulas scene() {
        CostFormulas x = Check.with("for i=1..a{w i;}x 3*b-2;", "w;", "for i=1..99*a{for j=1..50*a{w;}}", "y a-5;");
        x.judge(0, 2, 1);
        x.judge(2, 1, 0);
        x.judge(3, 5, 5);
        x.judge(3, 4, 5);
        x.price(0, 7);
        x.price(1, 0);
        x.price(3, 1000);
        Check.put(x, "y 2*b;w;");
        return x;
    }

    /** What all calls that change nothing tell. */
    private static String state(CostFormulas x) {
        StringBuilder all = new StringBuilder();
        for (int what = 0; what <= 5; what++) {
            all.append(x.told(what)).append(' ');
        }
        int programs = x.told(0);
        for (int p = 0; p < programs; p++) {
            all.append('\n').append(x.degree(p)).append(' ').append(x.grows(p));
            all.append(' ').append(x.steps(p, -1, 9, 9));
            for (int what = 0; what <= 2; what++) {
                all.append(' ').append(x.shown(p, what));
            }
            for (int kind = 0; kind < 4; kind++) {
                all.append(' ').append(x.count(p, kind, 6, 2)).append(' ').append(x.factor(p, kind, 0, 0));
                all.append(' ').append(x.factor(p, kind, 1, 0));
            }
        }
        return all.toString();
    }

    private static void due(String what, long got, long want) {
        CHECK.due(what, got, want);
    }

    private static void sameDue(String what, String got, String want) {
        if (!got.equals(want)) {
            System.out.println("before:\n" + want + "\nafter:\n" + got);
        }
        due(what, got.equals(want) ? 1 : 0, 1);
    }

    /** The call is refused, twice; all is told as before, and the text that stood on THE TAPE is read. */
    private static void refused(String name, long want, Call call) {
        CostFormulas x = scene();
        String before = state(x);
        due(name, call.on(x), want);
        due(name + " once more", call.on(x), want);
        sameDue(name + " changes nothing", state(x), before);
        due("4 the text on THE TAPE after " + name, x.read(), 4);
        due("6 its y after " + name, x.count(4, 2, 0, 4), 8);
        due("6 its w after " + name, x.count(4, 0, 0, 4), 1);
    }

    /** A FACTOR of PROGRAM 4's COST is just 10^18, one of PROGRAM 6's is more. */
    private static void refusedByGreatNumbers(String name, long want, Call call) {
        CostFormulas x = Great.times10To15();
        x.price(0, 1000);
        String before = state(x);
        due(name, call.on(x), want);
        sameDue(name + " changes nothing", state(x), before);
        due("11 COST of 4 after " + name, x.steps(4, -1, 1, 0), 1000000000000000000L);
    }

    private static void feedAndCut() {
        refused("cut(-1)", BAD, x -> x.cut(-1));
        refused("cut(9)", BAD, x -> x.cut(9));
        refused("cut(256)", BAD, x -> x.cut(256));
        refused("cut, least", BAD, x -> x.cut(LEAST));
        refused("cut, most", BAD, x -> x.cut(MOST));
        for (int length = 241; length <= 256; length += 5) {
            CostFormulas x = scene();
            x.cut(0);
            Check.put(x, "y 2*b;w;" + " ".repeat(length - 8));
            due("16 bytes", x.told(1), length);
            String before = state(x);
            due("2 feed behind " + length, x.feed(0x23232323, -1, 0, 0x23232323), FULL);
            sameDue("2 FULL changes nothing", state(x), before);
            due("2 the bytes are as they were", x.read(), 4);
            due("2 y", x.count(4, 2, 0, 4), 8);
        }
    }

    /** THE TAPE is empty then, all else is as it was. */
    private static void readRefused(String text, int want) {
        CostFormulas x = scene();
        x.cut(0);
        String before = state(x);
        due("4 read '" + text + "'", Check.read(x, text), want);
        sameDue("4 '" + text + "' changes nothing", state(x), before);
        due("4 an empty text after '" + text + "'", x.read(), 4);
        due("7 its DEGREE", x.degree(4), 0);
        due("9 it is not SHOWN", x.shown(4, 0), NONE);
    }

    private static void readWithAFault() {
        readRefused("#", -10);
        readRefused("w", -11);
        readRefused("for i=1..a{for j=1..b{w i;", -36);
        readRefused("run 4(a,b);", -14);
        readRefused("w 100;", -12);
        readRefused("w;".repeat(41) + "}", -92);
    }

    private static void readThatIsFull() {
        readRefused("w;".repeat(41), FULL);
        readRefused("for i=1..a{" + "x i;".repeat(40) + "}", FULL);
        CostFormulas x = scene();
        due("4 the fifth", x.read(), 4);
        due("4 the sixth", Check.read(x, "w a+b;"), 5);
        due("4 the seventh", Check.read(x, "w a;"), 6);
        due("4 the eighth", Check.read(x, "w b;"), 7);
        String before = state(x);
        due("4 the ninth", Check.read(x, "for i=1..a{run 0(i,i);}"), FULL);
        due("4 an empty ninth", x.read(), FULL);
        due("4 a ninth with a FAULT", Check.read(x, "for i=1..a{"), -21);
        sameDue("4 FULL changes nothing", state(x), before);
        due("5 the eighth goes", x.drop(), 7);
        due("4 a new eighth", Check.read(x, "x 4;"), 7);
        due("6 the new eighth", x.count(7, 1, 0, 0), 4);
    }

    private static void dropOfNone() {
        CostFormulas x = scene();
        for (int n = 3; n >= 0; n--) {
            due("5 drop", x.drop(), n);
        }
        String before = state(x);
        due("5 NONE", x.drop(), NONE);
        due("5 NONE", x.drop(), NONE);
        sameDue("5 NONE changes nothing", state(x), before);
        due("4 the text on THE TAPE", x.read(), 0);
        due("6 its y", x.count(0, 2, 0, 4), 8);
    }

    private static void count() {
        int[] programs = {-1, 4, LEAST, MOST};
        for (int program : programs) {
            refused("count of PROGRAM " + program, BAD, x -> x.count(program, 0, 0, 0));
        }
        int[] kinds = {-1, 4, LEAST, MOST};
        for (int kind : kinds) {
            refused("count of KIND " + kind, BAD, x -> x.count(0, kind, 0, 0));
            refused("count of KIND " + kind + ", that would be SPENT", BAD, x -> x.count(2, kind, 9, 0));
        }
        int[] inputs = {-1, 1001, LEAST, MOST};
        for (int input : inputs) {
            refused("count with a " + input, BAD, x -> x.count(0, 0, input, 0));
            refused("count with b " + input, BAD, x -> x.count(0, 0, 0, input));
            refused("count with b " + input + ", that would BREAK", BAD, x -> x.count(3, 0, 4, input));
        }
        refused("count that is SPENT", SPENT, x -> x.count(2, 0, 3, 0));
        refused("count that BREAKS", BROKEN, x -> x.count(3, 0, 4, 0));
        refused("count of another KIND that BREAKS", BROKEN, x -> x.count(0, 0, 4, 0));
    }

    private static void degreeAndShown() {
        int[] programs = {-1, 4, LEAST, MOST};
        for (int program : programs) {
            refused("degree " + program, BAD, x -> x.degree(program));
            for (int what = 0; what <= 2; what++) {
                int asked = what;
                refused("shown " + program + " " + what, BAD, x -> x.shown(program, asked));
            }
        }
        int[] whats = {-1, 3, LEAST, MOST};
        for (int what : whats) {
            refused("shown 0 " + what, BAD, x -> x.shown(0, what));
            refused("shown 1 " + what, BAD, x -> x.shown(1, what));
        }
        for (int program : new int[] {1, 3}) {
            refused("A of " + program, NONE, x -> x.shown(program, 0));
            refused("B of " + program, NONE, x -> x.shown(program, 1));
        }
    }

    private static void judge() {
        int[] programs = {-1, 4, LEAST, MOST};
        for (int program : programs) {
            refused("judge " + program, BAD, x -> x.judge(program, 0, 0));
        }
        int[] starts = {-1, 9, LEAST, MOST};
        for (int start : starts) {
            for (int program = 0; program < 4; program++) {
                int judged = program;
                refused("judge " + program + " from A " + start, BAD, x -> x.judge(judged, start, 8));
                refused("judge " + program + " from B " + start, BAD, x -> x.judge(judged, 8, start));
            }
        }
    }

    private static void factor() {
        int[] programs = {-1, 1, 2, 3, 4, LEAST, MOST};
        for (int program : programs) {
            refused("factor of PROGRAM " + program, TOO_GREAT, x -> x.factor(program, 0, 0, 0));
        }
        int[] kinds = {-1, 4, LEAST, MOST};
        for (int kind : kinds) {
            refused("factor of KIND " + kind, TOO_GREAT, x -> x.factor(0, kind, 0, 0));
        }
        int[] places = {-1, 6, LEAST, MOST};
        for (int place : places) {
            refused("factor " + place + ", 0", TOO_GREAT, x -> x.factor(0, 0, place, 0));
            refused("factor 0, " + place, TOO_GREAT, x -> x.factor(0, 0, 0, place));
        }
    }

    private static void steps() {
        int[] programs = {-1, 1, 2, 3, 4, LEAST, MOST};
        for (int program : programs) {
            refused("steps of PROGRAM " + program, TOO_GREAT, x -> x.steps(program, 0, 9, 9));
            refused("COST of PROGRAM " + program, TOO_GREAT, x -> x.steps(program, -1, 9, 9));
        }
        int[] kinds = {-2, 4, LEAST, MOST};
        for (int kind : kinds) {
            refused("steps of KIND " + kind, TOO_GREAT, x -> x.steps(0, kind, 9, 9));
        }
        int[] inputs = {-1, 1001, LEAST, MOST};
        for (int input : inputs) {
            refused("steps with a " + input, TOO_GREAT, x -> x.steps(0, 0, input, 9));
            refused("steps with b " + input, TOO_GREAT, x -> x.steps(0, 0, 9, input));
        }
        refused("steps below A", TOO_GREAT, x -> x.steps(0, 0, 1, 9));
        refused("steps below B", TOO_GREAT, x -> x.steps(0, 0, 9, 0));
    }

    private static void price() {
        int[] kinds = {-1, 4, LEAST, MOST};
        for (int kind : kinds) {
            refused("price of KIND " + kind, BAD, x -> x.price(kind, 5));
        }
        int[] prices = {-1, 1001, LEAST, MOST};
        for (int p : prices) {
            refused("price " + p, BAD, x -> x.price(0, p));
            refused("price " + p + " of z", BAD, x -> x.price(3, p));
        }
    }

    private static void compare() {
        int[] programs = {-1, 4, LEAST, MOST};
        for (int program : programs) {
            refused("compare " + program + " and 0", BAD, x -> x.compare(program, 0));
            refused("compare 0 and " + program, BAD, x -> x.compare(0, program));
            refused("compare 1 and " + program, BAD, x -> x.compare(1, program));
        }
        for (int program = 1; program <= 3; program++) {
            int without = program;
            refused("compare 0 and " + program, NOT, x -> x.compare(0, without));
            refused("compare " + program + " and 0", NOT, x -> x.compare(without, 0));
        }
        refusedByGreatNumbers("compare 4 and 7", SPENT, x -> x.compare(4, 7));
        refusedByGreatNumbers("compare 7 and 4", SPENT, x -> x.compare(7, 4));
    }

    private static void overtakes() {
        int[] programs = {-1, 4, LEAST, MOST};
        for (int program : programs) {
            refused("overtakes " + program + ", 0", BAD, x -> x.overtakes(program, 0, 9));
            refused("overtakes 0, " + program, BAD, x -> x.overtakes(0, program, 9));
            refused("overtakes 1, " + program, BAD, x -> x.overtakes(1, program, 9));
        }
        int[] inputs = {-1, 1001, LEAST, MOST};
        for (int b : inputs) {
            refused("overtakes with b " + b, BAD, x -> x.overtakes(0, 0, b));
            refused("overtakes without FORMULAS, with b " + b, BAD, x -> x.overtakes(1, 2, b));
        }
        refused("overtakes with b below B", BAD, x -> x.overtakes(0, 0, 0));
        for (int program = 1; program <= 3; program++) {
            int without = program;
            refused("overtakes 0, " + program, NOT, x -> x.overtakes(0, without, 0));
            refused("overtakes " + program + ", 0", NOT, x -> x.overtakes(without, 0, 1000));
        }
        refusedByGreatNumbers("overtakes 6, 7", SPENT, x -> x.overtakes(6, 7, 0));
        refusedByGreatNumbers("overtakes 7, 4", SPENT, x -> x.overtakes(7, 4, 0));
    }

    private static void growsAndTold() {
        int[] programs = {-1, 4, LEAST, MOST};
        for (int program : programs) {
            refused("grows " + program, BAD, x -> x.grows(program));
        }
        for (int program = 1; program <= 3; program++) {
            int without = program;
            refused("grows " + program, NOT, x -> x.grows(without));
        }
        refusedByGreatNumbers("grows 6", SPENT, x -> x.grows(6));
        refusedByGreatNumbers("COST of 6", TOO_GREAT, x -> x.steps(6, -1, 0, 0));
        refusedByGreatNumbers("steps of 6", TOO_GREAT, x -> x.steps(6, 0, 1000, 0));
        int[] whats = {-1, 6, LEAST, MOST};
        for (int what : whats) {
            refused("told " + what, BAD, x -> x.told(what));
        }
    }
}
