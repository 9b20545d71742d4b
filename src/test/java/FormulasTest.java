/** Promises 10, 11, 13, 14 and 15: FACTORS, FORMULAS, COSTS and what is TOO GREAT. */
public final class FormulasTest {
    private static final Check CHECK = new Check();
    private static final int BAD = -1, NONE = -2, NOT = -3, SPENT = -4;
    private static final long TOO_GREAT = -9000000000000000000L;
    private static final long TEN_18 = 1000000000000000000L;

    public static void main(String[] args) {
        factors();
        factorsFromFurtherOn();
        factorsWrongly();
        stepsByFormula();
        stepsWrongly();
        costs();
        comparing();
        comparingFromTheGreaterStart();
        comparingWrongly();
        overtaking();
        overtakingWrongly();
        overtakingWhatIsNotShown();
        overtakingWithoutFormulas();
        growing();
        justGreatEnough();
        tooGreatWithInputs();
        CHECK.end();
    }

    private static void due(String what, long got, long want) {
        CHECK.due(what, got, want);
    }

    private static void factors() {
        CostFormulas x = Check.shown("for i=1..a{w i;}x b;y 7;", "for i=1..a{for j=1..b{w;x j;}}", "z;");
        long[] w = {0, 0, 0, 1, 0, 1};
        long[] xs = {0, 1, 0, 0, 0, 0};
        int[] i = {0, 0, 0, 1, 1, 2};
        int[] j = {0, 1, 2, 0, 1, 0};
        for (int n = 0; n < 6; n++) {
            due("10 w " + i[n] + " " + j[n], x.factor(0, 0, i[n], j[n]), w[n]);
            due("10 x " + i[n] + " " + j[n], x.factor(0, 1, i[n], j[n]), xs[n]);
            due("10 y " + i[n] + " " + j[n], x.factor(0, 2, i[n], j[n]), n == 0 ? 7 : 0);
            due("10 z " + i[n] + " " + j[n], x.factor(0, 3, i[n], j[n]), 0);
        }
        due("10 beyond the DEGREE", x.factor(0, 0, 2, 1), 0);
        due("10 beyond the DEGREE", x.factor(0, 0, 5, 5), 0);
        due("10 a times b", x.factor(1, 0, 1, 1), 1);
        due("10 a times the sum to b", x.factor(1, 1, 1, 2), 1);
        due("10 a times the sum to b", x.factor(1, 1, 1, 1), 1);
        due("10 DEGREE 0", x.factor(2, 3, 0, 0), 1);
        due("10 DEGREE 0", x.factor(2, 3, 1, 0), 0);
        CostFormulas y = Check.shown("for i=1..a{for j=1..i{for k=1..j{for l=1..k{w l;}}}}");
        long[] five = {0, 1, 4, 6, 4, 1};
        for (int n = 0; n <= 5; n++) {
            due("10 C(a + 4, 5)", y.factor(0, 0, n, 0), five[n]);
        }
    }

    private static void factorsFromFurtherOn() {
        CostFormulas x = Check.with("for i=1..a{w i;}for i=1..b{for j=1..a{x;}}");
        x.judge(0, 0, 0);
        due("10 from 0", x.factor(0, 0, 0, 0), 0);
        x.judge(0, 2, 3);
        due("10 from 2", x.factor(0, 0, 0, 0), 3);
        due("10 from 2", x.factor(0, 0, 1, 0), 3);
        due("10 from 2", x.factor(0, 0, 2, 0), 1);
        due("10 from 2, 3", x.factor(0, 1, 0, 0), 6);
        due("10 from 2, 3", x.factor(0, 1, 1, 0), 3);
        due("10 from 2, 3", x.factor(0, 1, 0, 1), 2);
        due("10 from 2, 3", x.factor(0, 1, 1, 1), 1);
        x.judge(0, 8, 8);
        due("10 from 8", x.factor(0, 0, 0, 0), 36);
        x.drop();
        Check.read(x, "w 5;");
        due("10 of another PROGRAM", x.factor(0, 0, 0, 0), TOO_GREAT);
        x.judge(0, 8, 8);
        due("10 of another PROGRAM", x.factor(0, 0, 0, 0), 5);
        due("10 of another PROGRAM", x.factor(0, 0, 1, 0), 0);
    }

    private static void factorsWrongly() {
        CostFormulas x = Check.with("w a;", "for i=1..99*a{for j=1..99*a{w;}}");
        due("10 NOT judged", x.factor(0, 0, 0, 0), TOO_GREAT);
        due("10 NOT, even beyond the DEGREE", x.factor(0, 0, 5, 5), TOO_GREAT);
        x.judge(0, 0, 0);
        x.judge(1, 0, 0);
        due("10 no FORMULAS", x.factor(1, 0, 0, 0), TOO_GREAT);
        due("10 BAD PROGRAM", x.factor(2, 0, 0, 0), TOO_GREAT);
        due("10 BAD PROGRAM", x.factor(-1, 0, 0, 0), TOO_GREAT);
        due("10 BAD KIND", x.factor(0, 4, 0, 0), TOO_GREAT);
        due("10 BAD KIND", x.factor(0, -1, 0, 0), TOO_GREAT);
        due("10 BAD i", x.factor(0, 0, 6, 0), TOO_GREAT);
        due("10 BAD i", x.factor(0, 0, -1, 0), TOO_GREAT);
        due("10 BAD j", x.factor(0, 0, 0, 6), TOO_GREAT);
        due("10 BAD j", x.factor(0, 0, 0, -1), TOO_GREAT);
        due("10 fine", x.factor(0, 0, 1, 0), 1);
    }

    private static void stepsByFormula() {
        CostFormulas x = Check.with("for i=1..a{w i;for j=1..b+i{x j-i+a;}}");
        x.judge(0, 3, 2);
        for (int a = 3; a < 12; a++) {
            for (int b = 2; b < 12; b++) {
                due("11 w " + a + " " + b, x.steps(0, 0, a, b), a * (a + 1) / 2);
                due("11 x " + a + " " + b, x.steps(0, 1, a, b), x.count(0, 1, a, b));
            }
        }
        due("11 the greatest", x.steps(0, 0, 1000, 1000), 500500);
        CostFormulas y = Check.shown("for i=1..a{for j=1..a{for k=1..a{for l=1..a{w b;}}}}");
        due("11 beyond what can be run", y.steps(0, 0, 1000, 1000), TEN_18 / 1000);
        due("11 DEGREE 0", Check.shown("w;w;").steps(0, 0, 1000, 0), 2);
    }

    private static void stepsWrongly() {
        CostFormulas x = Check.with("w a;", "w a;");
        x.judge(0, 3, 2);
        due("11 NOT", x.steps(1, 0, 5, 5), TOO_GREAT);
        due("11 BAD PROGRAM", x.steps(2, 0, 5, 5), TOO_GREAT);
        due("11 BAD PROGRAM", x.steps(-1, 0, 5, 5), TOO_GREAT);
        due("11 BAD KIND", x.steps(0, 4, 5, 5), TOO_GREAT);
        due("11 BAD KIND", x.steps(0, -2, 5, 5), TOO_GREAT);
        due("11 a below A", x.steps(0, 0, 2, 5), TOO_GREAT);
        due("11 b below B", x.steps(0, 0, 5, 1), TOO_GREAT);
        due("11 a above", x.steps(0, 0, 1001, 5), TOO_GREAT);
        due("11 b above", x.steps(0, 0, 5, 1001), TOO_GREAT);
        due("11 just at A, B", x.steps(0, 0, 3, 2), 3);
        x.judge(0, 0, 0);
        due("11 now from 0 on", x.steps(0, 0, 2, 1), 2);
    }

    private static void costs() {
        CostFormulas x = Check.shown("w a;x b;y 3;z;");
        due("11 COST at first", x.steps(0, -1, 10, 20), 34);
        for (int kind = 0; kind < 4; kind++) {
            x.price(kind, new int[] {1000, 0, 7, 20}[kind]);
        }
        due("11 COST with PRICES", x.steps(0, -1, 10, 20), 10041);
        due("11 KINDS have none", x.steps(0, 0, 10, 20), 10);
    }

    private static void compareDue(String p, String q, int want) {
        CostFormulas x = Check.shown(p, q);
        due("13 '" + p + "' and '" + q + "'", x.compare(0, 1), want);
        due("13 '" + q + "' and '" + p + "'", x.compare(1, 0), want == 1 ? 2 : want == 2 ? 1 : want);
    }

    private static void comparing() {
        compareDue("w a;", "x a;", 0);
        compareDue("", "w 0;", 0);
        compareDue("w a+1;", "w a;", 1);
        compareDue("w a;", "w a+b;", 2);
        compareDue("w 2*a;", "w a+b;", 3);
        compareDue("w 9;", "w a;", 3);
        compareDue("w 9;", "for i=1..a{w i;}", 3);
        compareDue("w 0;", "for i=1..a{w i;}", 2);
        compareDue("for i=1..a{w i;}", "w a;", 1);
        CostFormulas x = Check.shown("w;w;", "x;");
        due("13 PRICES 1", x.compare(0, 1), 1);
        x.price(1, 2);
        due("13 PRICE 2", x.compare(0, 1), 0);
        x.price(1, 3);
        due("13 PRICE 3", x.compare(0, 1), 2);
        due("13 with itself", x.compare(1, 1), 0);
    }

    private static void comparingFromTheGreaterStart() {
        CostFormulas x = Check.with("w a-2;", "w a;", "w a+b-4;", "w b-3+a;", "for i=1..a{w i;}", "w 3*a-3;");
        int[] a = {2, 0, 4, 0, 0, 2};
        int[] b = {0, 0, 0, 3, 0, 0};
        for (int n = 0; n < 6; n++) {
            due("8 start " + n, x.judge(n, a[n], b[n]), 1);
        }
        due("13 FACTORS of their own are alike", x.compare(0, 1), 2);
        due("13 from 4, 3 on", x.compare(2, 3), 2);
        due("13 from 4, 3 on", x.compare(3, 2), 1);
        due("13 from 2 on: 3 3 1 and 3 3 0", x.compare(4, 5), 1);
        x.judge(4, 1, 0);
        x.judge(5, 1, 0);
        due("13 from 1 on: 1 2 1 and 0 3 0", x.compare(4, 5), 3);
    }

    private static void comparingWrongly() {
        CostFormulas x = Check.with("w a;", "w a;", "for i=1..99*a{for j=1..99*a{w;}}");
        x.judge(0, 0, 0);
        x.judge(2, 0, 0);
        due("13 NOT q", x.compare(0, 1), NOT);
        due("13 NOT p", x.compare(1, 0), NOT);
        due("13 no FORMULAS", x.compare(0, 2), NOT);
        due("13 BAD p", x.compare(3, 1), BAD);
        due("13 BAD q", x.compare(1, 3), BAD);
        due("13 BAD", x.compare(-1, 0), BAD);
        due("13 BAD", x.compare(0, -1), BAD);
    }

    private static void overtaking() {
        String[] texts = {"for i=1..a{w i;}", "w 10*a;", "for i=1..a{for j=1..b{w;}}", "w 50;",
            "w 99+99+99+99+99+99+99+99;w 99+99+9;", "w a;", "x 1+a;", ""};
        CostFormulas x = Check.shown(texts);
        due("14 190 is not more, 210 is", x.overtakes(0, 1, 0), 20);
        due("14 the other way round", x.overtakes(1, 0, 0), 1);
        due("14 51 times 1", x.overtakes(2, 3, 1), 51);
        due("14 6 times 9", x.overtakes(2, 3, 9), 6);
        due("14 times 0", x.overtakes(2, 3, 0), NONE);
        due("14 times 1000", x.overtakes(2, 3, 1000), 1);
        due("14 999 and 1000", x.overtakes(5, 4, 0), 1000);
        due("14 itself", x.overtakes(5, 5, 0), NONE);
        due("14 always one more", x.overtakes(6, 5, 0), 0);
        due("14 always one less", x.overtakes(5, 6, 0), NONE);
        due("14 50 and 0", x.overtakes(3, 7, 0), 0);
        x.price(0, 10);
        due("14 10 a and 1 + a", x.overtakes(5, 6, 0), 1);
        due("14 9990", x.overtakes(6, 4, 0), NONE);
        x.judge(5, 7, 4);
        due("14 from the greater A on", x.overtakes(5, 6, 4), 7);
        due("14 from the greater A on", x.overtakes(6, 7, 0), 0);
        x.judge(7, 8, 0);
        due("14 from the greater A on", x.overtakes(6, 7, 0), 8);
        due("14 b below the greater B", x.overtakes(5, 6, 3), BAD);
        due("14 b below the greater B", x.overtakes(6, 5, 3), BAD);
        due("14 from 7 on", x.overtakes(0, 5, 5), 7);
        due("14 7 to 13: 28 to 91, 30 to 60", x.overtakes(0, 3, 0), 10);
    }

    private static void overtakingWrongly() {
        CostFormulas x = Check.with("w a;", "w a;", "for i=1..99*a{for j=1..99*a{w;}}");
        x.judge(0, 0, 5);
        x.judge(2, 0, 0);
        due("14 NOT q", x.overtakes(0, 1, 5), NOT);
        due("14 NOT p", x.overtakes(1, 0, 5), NOT);
        due("14 NOT both", x.overtakes(1, 1, 0), NOT);
        due("14 no FORMULAS", x.overtakes(0, 2, 5), NOT);
        due("14 BAD goes before NOT", x.overtakes(0, 1, -1), BAD);
        due("14 BAD goes before NOT", x.overtakes(1, 0, 1001), BAD);
        due("14 BAD goes before NOT", x.overtakes(1, 1, -1), BAD);
        due("14 BAD goes before NOT", x.overtakes(1, 1, 1001), BAD);
        due("14 BAD p", x.overtakes(3, 0, 5), BAD);
        due("14 BAD q", x.overtakes(0, 3, 5), BAD);
        due("14 BAD p", x.overtakes(-1, 0, 5), BAD);
        due("14 BAD q", x.overtakes(0, -1, 5), BAD);
        due("14 the greatest b", x.overtakes(0, 0, 1000), NONE);
        due("14 b above", x.overtakes(0, 0, 1001), BAD);
    }

    private static void overtakingWhatIsNotShown() {
        CostFormulas x = Check.with("w a;", "x b-8;");
        due("14 none has a B", x.overtakes(0, 1, 0), NOT);
        x.judge(0, 0, 5);
        due("14 q has no B", x.overtakes(0, 1, 4), NOT);
        due("14 p has no B", x.overtakes(1, 0, 4), NOT);
        due("14 p has no B", x.overtakes(1, 0, 0), NOT);
        x.judge(1, 0, 8);
        due("14 both have one", x.overtakes(0, 1, 7), BAD);
        due("14 both have one", x.overtakes(0, 1, 8), 1);
        x.judge(1, 0, 7);
        due("14 SHOWN no more", x.overtakes(0, 1, 4), NOT);
        due("14 SHOWN no more", x.overtakes(1, 0, 4), NOT);
        due("14 the one that is SHOWN, twice", x.overtakes(0, 0, 4), BAD);
    }

    /** PROGRAM 1 is SHOWN, but its RUNS with an a of 1 and more are SPENT, and so it has no FORMULAS. */
    private static void overtakingWithoutFormulas() {
        CostFormulas x = Check.with("w a;", "for i=1..99*a{for j=1..99*a{w;}for j=1..99*a{w;}for j=1..99*a{w;}}");
        x.judge(0, 0, 5);
        due("14 SHOWN", x.judge(1, 0, 7), 1);
        due("14 without FORMULAS", x.shown(1, 2), 0);
        for (int b = 0; b < 9; b++) {
            due("14 no FORMULAS of q", x.overtakes(0, 1, b), NOT);
            due("14 no FORMULAS of p", x.overtakes(1, 0, b), NOT);
            due("14 no FORMULAS of both", x.overtakes(1, 1, b), NOT);
        }
        due("14 the greatest b", x.overtakes(0, 1, 1000), NOT);
        due("14 BAD goes before NOT", x.overtakes(0, 1, -1), BAD);
        due("14 BAD goes before NOT", x.overtakes(1, 0, 1001), BAD);
        due("14 with FORMULAS b has a least", x.overtakes(0, 0, 4), BAD);
        due("14 with FORMULAS b has a least", x.overtakes(0, 0, 5), NONE);
    }

    private static void growing() {
        CostFormulas x = Check.shown("", "w;", "w 5;", "w b;", "for i=1..a{for j=1..b{w;}}x a;", "for i=1..a{x i;}");
        int[] want = {NONE, 0, 0, 1, 2, 2};
        for (int n = 0; n < 6; n++) {
            due("15 " + n, x.grows(n), want[n]);
        }
        x.price(0, 0);
        int[] without = {NONE, NONE, NONE, NONE, 1, 2};
        for (int n = 0; n < 6; n++) {
            due("15 without w " + n, x.grows(n), without[n]);
        }
        due("15 BAD", x.grows(6), BAD);
        due("15 BAD", x.grows(-1), BAD);
        due("15 not SHOWN", Check.with("w;").grows(0), NOT);
        CostFormulas y = Check.shown("for i=1..99*a{for j=1..99*a{w;}}");
        due("15 no FORMULAS", y.grows(0), NOT);
    }

    private static String parts(String name, int times, String last) {
        return ("99*" + name + "+").repeat(times) + last;
    }

    /** PROGRAM 3 makes 10^15 steps of w, whatever the INPUTS are. */
    private static void justGreatEnough() {
        String j = parts("i", 5, "5*i");
        String k = parts("j", 5, "5*j");
        CostFormulas x = Check.shown(
            "for i=40..40{for j=" + j + ".." + j + "{for k=" + k + ".." + k + "{for l=99*k+k..99*k+k{"
                + "w99*l+l;".repeat(10) + "}}}}",
            "run 0(a,b);".repeat(20), "run 1(a,b);".repeat(10), "run 2(a,b);".repeat(5), "run 3(a,b);x;", "w;");
        due("10 10^15", x.factor(3, 0, 0, 0), TEN_18 / 1000);
        x.price(0, 1000);
        due("11 10^18 is not TOO GREAT", x.steps(3, -1, 9, 9), TEN_18);
        due("15 10^18 is not TOO GREAT", x.grows(3), 0);
        due("14 10^18 is not TOO GREAT", x.overtakes(3, 5, 0), 0);
        due("14 10^18 is not TOO GREAT", x.overtakes(5, 3, 0), NONE);
        due("11 10^18 and 1 is TOO GREAT", x.steps(4, -1, 9, 9), TOO_GREAT);
        due("11 a KIND has no PRICE", x.steps(4, 0, 9, 9), TEN_18 / 1000);
        due("15 10^18 and 1 is TOO GREAT", x.grows(4), SPENT);
        due("14 10^18 and 1 is TOO GREAT", x.overtakes(4, 5, 0), SPENT);
        due("14 10^18 and 1 is TOO GREAT", x.overtakes(5, 4, 0), SPENT);
        due("13 10^18 and 1 is TOO GREAT", x.compare(4, 5), SPENT);
        x.price(1, 0);
        due("15 10^18 and 0 is not TOO GREAT", x.grows(4), 0);
        due("13 10^18 twice is TOO GREAT", x.compare(3, 5), SPENT);
        due("13 10^18 twice is TOO GREAT", x.compare(5, 3), SPENT);
        x.price(0, 100);
        due("13 10^17 ten times is not TOO GREAT", x.compare(3, 5), 1);
        due("13 10^17 ten times is not TOO GREAT", x.compare(3, 4), 0);
        x.price(0, 101);
        due("13 1.01 times 10^17 ten times is TOO GREAT", x.compare(3, 5), SPENT);
        due("13 the lesser alone is fine", x.compare(5, 5), 0);
    }

    /** PROGRAM 3 makes 2116 * 1881 * (768476808 + t) steps of w for each t of 1 .. a. */
    private static void tooGreatWithInputs() {
        String j = parts("i", 7, "99*i");
        CostFormulas x = Check.shown(
            "for i=99..99{for j=" + j + ".." + j + "{for k=99*j..99*j{for l=99*k+1..99*k+a{"
                + "w99*l;".repeat(19) + "}}}}",
            "run 0(a,b);".repeat(23), "run 1(a,b);".repeat(23), "run 2(a,b);".repeat(4), "", "w;");
        long once = 2116L * 1881L;
        long first = once * 768476809L;
        due("10 for each", x.factor(3, 0, 1, 0), first);
        due("10 for each rising", x.factor(3, 0, 2, 0), once);
        due("10 nothing at 0", x.factor(3, 0, 0, 0), 0);
        due("11 with 326", x.steps(3, 0, 326, 0), first * 326 + once * (326 * 325 / 2));
        due("11 with 327", x.steps(3, 0, 327, 0), TOO_GREAT);
        due("14 on the way", x.overtakes(4, 3, 0), SPENT);
        due("14 before that", x.overtakes(3, 5, 0), 1);
        due("14 before that", x.overtakes(5, 3, 0), 0);
        x.price(0, 326);
        due("15 PRICE 326", x.grows(3), 2);
        due("11 PRICE 326", x.steps(3, -1, 1, 0), first * 326);
        due("11 PRICE 326 twice", x.steps(3, -1, 2, 0), TOO_GREAT);
        due("14 PRICE 326", x.overtakes(3, 5, 0), 1);
        x.price(0, 327);
        due("15 PRICE 327", x.grows(3), SPENT);
        due("11 PRICE 327, though C(0, 1) is 0", x.steps(3, -1, 0, 0), TOO_GREAT);
        due("14 PRICE 327", x.overtakes(3, 5, 0), SPENT);
        due("14 PRICE 327", x.overtakes(5, 3, 0), SPENT);
        due("13 PRICE 327", x.compare(5, 3), SPENT);
        due("11 KINDS are as before", x.steps(3, 0, 1, 0), first);
    }
}
