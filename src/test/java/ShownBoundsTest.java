/** The boundaries of what is SHOWN, and of what has FORMULAS, a sentence of the document at a time; promises 8, 9. */
public final class ShownBoundsTest {
    private static final Check CHECK = new Check();
    private static final int BAD = -1, NONE = -2, NOT = -3, SPENT = -4, BROKEN = -5;
    private static final long TOO_GREAT = -9000000000000000000L;

    public static void main(String[] args) {
        startsAre0To8();
        judgeRefuses();
        degreesAre5AtMost();
        degreesOfRunsAre5AtMost();
        aForsSecondLineIs1LessAtTheLeast();
        aStepsLineIs0OrMore();
        aStepAloneIsAlwaysShown();
        inputsFactorsAre0OrMore();
        whatItComesToIs0OrMore();
        variablesArePutAsFirstOrSecondLine();
        theInnermostIsPutFirst();
        allLinesMustBe0OrMore();
        aRunsLinesReachWhereItIsShownFrom();
        aRunOfWhatNeverWasShown();
        theLatestJudgingCounts();
        notShownIsFromNowhere();
        shownAnewFromElsewhere();
        shownRefuses();
        runsThatMayNotBeSpent();
        runsThatMayNotBreakByAnInput();
        runsThatMayNotBreakByALine();
        CHECK.end();
    }

    private static void due(String what, long got, long want) {
        CHECK.due(what, got, want);
    }

    private static void judgeDue(CostFormulas x, int program, int a, int b, int want) {
        String call = "8 judge " + program + " from " + a + ", " + b;
        due(call, x.judge(program, a, b), want);
        due(call + ": A", x.shown(program, 0), want == 1 ? a : NONE);
        due(call + ": B", x.shown(program, 1), want == 1 ? b : NONE);
    }

    private static void textDue(String text, int a, int b, int want) {
        CostFormulas x = Check.with(text);
        due("8 '" + text + "' from " + a + ", " + b, x.judge(0, a, b), want);
        due("9 A of '" + text + "'", x.shown(0, 0), want == 1 ? a : NONE);
        due("9 B of '" + text + "'", x.shown(0, 1), want == 1 ? b : NONE);
    }

    private static void startsAre0To8() {
        CostFormulas x = Check.with("w a+b;");
        for (int a = 0; a <= 8; a++) {
            for (int b = 0; b <= 8; b++) {
                judgeDue(x, 0, a, b, 1);
            }
        }
        due("10 from 8, 8", x.factor(0, 0, 0, 0), 16);
    }

    private static void judgeRefuses() {
        CostFormulas x = Check.with("w a;", "w a-9;");
        judgeDue(x, 0, 3, 8, 1);
        int[] wrong = {-1, 9, Integer.MIN_VALUE, Integer.MAX_VALUE};
        for (int start : wrong) {
            due("8 A " + start, x.judge(0, start, 2), BAD);
            due("8 B " + start, x.judge(0, 2, start), BAD);
            due("8 A of what is not SHOWN", x.judge(1, start, 2), BAD);
        }
        int[] none = {-1, 2, Integer.MIN_VALUE, Integer.MAX_VALUE};
        for (int program : none) {
            due("8 PROGRAM " + program, x.judge(program, 0, 0), BAD);
        }
        due("9 A stays", x.shown(0, 0), 3);
        due("9 B stays", x.shown(0, 1), 8);
        due("9 FORMULAS stay", x.shown(0, 2), 1);
        due("10 FACTORS stay", x.factor(0, 0, 0, 0), 3);
        due("9 nor is the other one SHOWN", x.shown(1, 0), NONE);
    }

    private static void degreesAre5AtMost() {
        String four = "for i=1..a{for j=1..b{for k=1..2{for l=1..2{";
        textDue(four + "}}}}", 0, 0, 1);
        textDue(four + "w;}}}}", 0, 0, 1);
        textDue(four + "w l;}}}}", 0, 0, 1);
        CostFormulas x = Check.shown(four + "w l;}}}}", "run 0(a,b);");
        due("7 DEGREE 5 by a run", x.degree(1), 5);
        due("9 FORMULAS", x.shown(1, 2), 1);
        due("10 FACTOR 1, 1", x.factor(0, 0, 1, 1), 6);
    }

    private static void degreesOfRunsAre5AtMost() {
        String four = "for i=1..a{for j=1..b{for k=1..2{for l=1..2{";
        CostFormulas x = Check.with("w 2;", "for i=1..2{w 1;}", four + "run 0(a,b);}}}}", four + "run 1(a,b);}}}}",
            "run 3(a,b);", "for i=1..2{run 2(a,b);}");
        judgeDue(x, 0, 0, 0, 1);
        judgeDue(x, 1, 0, 0, 1);
        due("7 DEGREE 5", x.degree(2), 5);
        judgeDue(x, 2, 0, 0, 1);
        due("7 DEGREE 6", x.degree(3), 6);
        judgeDue(x, 3, 8, 8, 0);
        due("7 DEGREE 6", x.degree(4), 6);
        judgeDue(x, 4, 8, 8, 0);
        due("7 DEGREE 6", x.degree(5), 6);
        judgeDue(x, 5, 8, 8, 0);
        due("9 no FORMULAS", x.shown(3, 2), 0);
        due("6 it can be counted even so", x.count(3, 0, 2, 2), 32);
    }

    private static void aForsSecondLineIs1LessAtTheLeast() {
        textDue("for i=5..5{}", 0, 0, 1);
        textDue("for i=5..4{}", 0, 0, 1);
        textDue("for i=5..3{}", 8, 8, 0);
        textDue("for i=5..a{}", 4, 0, 1);
        textDue("for i=5..a{}", 3, 8, 0);
        textDue("for i=b..a+2*b-3{}", 1, 1, 1);
        textDue("for i=b..a+2*b-3{}", 1, 0, 0);
        textDue("for i=b..a+2*b-3{}", 0, 1, 0);
        textDue("for i=b+1..b{}", 0, 0, 1);
        textDue("for i=b+2..b{}", 8, 8, 0);
        textDue("for i=1..a{for j=i+1..i{}}", 0, 0, 1);
        textDue("for i=1..a{for j=i+2..i{}}", 8, 8, 0);
        CostFormulas x = Check.with("for i=5..a{w;}");
        judgeDue(x, 0, 4, 0, 1);
        due("11 none at 4", x.steps(0, 0, 4, 0), 0);
        due("11 one at 5", x.steps(0, 0, 5, 0), 1);
    }

    private static void aStepsLineIs0OrMore() {
        textDue("w 0;", 0, 0, 1);
        textDue("w 1-1;", 0, 0, 1);
        textDue("w 1-2;", 8, 8, 0);
        textDue("z a-8;", 8, 0, 1);
        textDue("z a-8;", 7, 8, 0);
        textDue("z b-8;", 0, 8, 1);
        textDue("z b-8;", 8, 7, 0);
        textDue("z a-9;", 8, 8, 0);
        textDue("for i=3..a+3{w i-3;}", 0, 0, 1);
        textDue("for i=3..a+3{w i-4;}", 8, 8, 0);
    }

    private static void aStepAloneIsAlwaysShown() {
        textDue("", 0, 0, 1);
        textDue("w;x;y;z;", 0, 0, 1);
        textDue("for i=1..0{w;}", 0, 0, 1);
    }

    /** f or g below 0 is too little, however great the rest is. */
    private static void inputsFactorsAre0OrMore() {
        textDue("w a-a;", 0, 0, 1);
        textDue("w a-2*a+99;", 0, 0, 0);
        textDue("w b-b;", 0, 0, 1);
        textDue("w b-2*b+99;", 0, 0, 0);
        textDue("w 99*a-b;", 8, 0, 0);
        textDue("w 99*b-a;", 0, 8, 0);
        textDue("for i=a..99{}", 0, 0, 0);
        textDue("for i=b..99+a{}", 8, 0, 0);
        textDue("for i=0..a{w 99+b-i;}", 0, 0, 0);
        textDue("for i=0..a{w a+b-i;}", 0, 0, 1);
        textDue("for i=0-a..0{w 99+i;}", 0, 0, 0);
        textDue("for i=0-a..0{w a+i;}", 0, 0, 1);
    }

    private static void whatItComesToIs0OrMore() {
        String text = "w 2*a+3*b-12;";
        int[] a = {6, 5, 3, 2, 3, 0, 0, 8, 8, 1, 1};
        int[] b = {0, 0, 2, 2, 1, 4, 3, 8, 0, 4, 3};
        int[] want = {1, 0, 1, 0, 0, 1, 0, 1, 1, 1, 0};
        for (int n = 0; n < a.length; n++) {
            textDue(text, a[n], b[n], want[n]);
        }
        textDue("w 99*a+99*a+99*a+99*a+99*a+99*a+99*a-99;", 0, 8, 0);
        textDue("w 99*a+99*a+99*a+99*a+99*a+99*a+99*a-99;", 1, 0, 1);
    }

    private static void variablesArePutAsFirstOrSecondLine() {
        textDue("for i=2..a+4{w i-2;}", 0, 0, 1);
        textDue("for i=2..a+4{w i-3;}", 0, 0, 0);
        textDue("for i=2..a+4{w a+4-i;}", 0, 0, 1);
        textDue("for i=2..a+4{w a+3-i;}", 0, 0, 0);
        textDue("for i=2..a+4{w 3*i-6;}", 0, 0, 1);
        textDue("for i=2..a+4{w 3*a+12-3*i;}", 0, 0, 1);
        textDue("for i=2..a+4{w 3*a+11-3*i;}", 8, 8, 0);
        textDue("for i=b..a+b{w i-b;}", 0, 0, 1);
        textDue("for i=2..a+4{w i-i;}", 0, 0, 1);
        textDue("for i=a..a+4{for j=1..i{w i+j-1-a;}}", 0, 0, 1);
        textDue("for i=a..a+4{for j=1..i{w i+j-2-a;}}", 0, 0, 0);
    }

    /** What i is put as follows from its factor when j has been put, not from the one that stands in the text. */
    private static void theInnermostIsPutFirst() {
        textDue("for i=2..a+9{for j=i..a+9{w 2*j-i-2;}}", 0, 0, 1);
        textDue("for i=2..a+9{for j=i..a+9{w 2*j-i-3;}}", 8, 8, 0);
        textDue("for i=2..a+9{for j=i..a+9{w j-i;}}", 0, 0, 1);
        textDue("for i=2..a+9{for j=i..a+9{w j-i-1;}}", 8, 8, 0);
        textDue("for i=2..a+9{for j=0..i{w 2*i-3*j+a+9;}}", 0, 0, 1);
        textDue("for i=2..a+9{for j=0..i{w 2*i-3*j+a+8;}}", 8, 8, 0);
        textDue("for i=0..a{for j=i..a{for k=j..a{for l=k..a{w l-k+j-i;}}}}", 0, 0, 1);
        textDue("for i=0..a{for j=i..a{for k=j..a{for l=k..a{w l-k+j-i-1;}}}}", 8, 8, 0);
        textDue("for i=0..a{for j=i..a{for k=j..a{for l=k..a{w a-l+k-i;}}}}", 0, 0, 1);
    }

    private static void allLinesMustBe0OrMore() {
        textDue("w;w a;w a-3;", 2, 0, 0);
        textDue("w a-3;w;w a;", 2, 0, 0);
        textDue("w a-3;w;w a;", 3, 0, 1);
        textDue("for i=1..a{}for i=4..a{}", 2, 0, 0);
        textDue("for i=1..a{}for i=4..a{}", 3, 0, 1);
        textDue("for i=1..0{w a-3;}", 2, 0, 0);
        textDue("for i=1..a{for j=1..a{w a-3;}}w;", 2, 0, 0);
        textDue("w;".repeat(39) + "w a-3;", 2, 0, 0);
        textDue("w;".repeat(39) + "w a-3;", 3, 0, 1);
        textDue("for i=4..a+4{w i-4;}for i=0..a{w i;}", 0, 0, 1);
        textDue("for i=4..a+4{w i-4;}for i=0..a{w i-4;}", 0, 0, 0);
        textDue("for i=0..a{for j=4..a+4{}for j=0..a{w j-4;}}", 0, 0, 0);
        textDue("for i=0..a{for j=0..a{}for j=4..a+4{w j-4;}}", 0, 0, 1);
    }

    private static void aRunsLinesReachWhereItIsShownFrom() {
        CostFormulas x = Check.with("w a+b;", "run 0(a,b);", "run 0(2*a-1,b);", "for i=1..a{run 0(i+2,b+i);}",
            "for i=1..a{run 0(a-i,b);}", "run 0(5,5);");
        judgeDue(x, 0, 3, 5, 1);
        judgeDue(x, 1, 3, 5, 1);
        judgeDue(x, 1, 2, 5, 0);
        judgeDue(x, 1, 3, 4, 0);
        judgeDue(x, 1, 8, 8, 1);
        judgeDue(x, 2, 2, 5, 1);
        judgeDue(x, 2, 1, 5, 0);
        judgeDue(x, 3, 0, 4, 1);
        judgeDue(x, 3, 0, 3, 0);
        judgeDue(x, 4, 8, 8, 0);
        judgeDue(x, 5, 0, 0, 1);
        judgeDue(x, 0, 5, 6, 1);
        judgeDue(x, 5, 8, 8, 0);
        judgeDue(x, 0, 6, 5, 1);
        judgeDue(x, 5, 8, 8, 0);
        judgeDue(x, 0, 0, 0, 1);
        judgeDue(x, 4, 0, 0, 1);
        judgeDue(x, 5, 0, 0, 1);
    }

    private static void aRunOfWhatNeverWasShown() {
        CostFormulas x = Check.with("w;", "run 0(a,b);", "for i=1..0{run 0(a,b);}", "w;");
        judgeDue(x, 1, 8, 8, 0);
        judgeDue(x, 2, 8, 8, 0);
        judgeDue(x, 3, 0, 0, 1);
        judgeDue(x, 1, 8, 8, 0);
        judgeDue(x, 0, 0, 0, 1);
        judgeDue(x, 1, 0, 0, 1);
        judgeDue(x, 2, 0, 0, 1);
    }

    private static void theLatestJudgingCounts() {
        CostFormulas x = Check.with("w a-1;", "run 0(a,b);x 5;", "run 1(a,b);");
        judgeDue(x, 0, 1, 0, 1);
        judgeDue(x, 1, 1, 0, 1);
        judgeDue(x, 0, 4, 2, 1);
        due("9 what ran it is as it was", x.shown(1, 0), 1);
        due("9 and has its FORMULAS", x.shown(1, 2), 1);
        judgeDue(x, 1, 3, 2, 0);
        judgeDue(x, 1, 4, 1, 0);
        judgeDue(x, 1, 4, 2, 1);
        judgeDue(x, 0, 0, 0, 0);
        due("9 what ran it is as it was", x.shown(1, 0), 4);
        due("10 and has its FORMULAS", x.factor(1, 1, 0, 0), 5);
        judgeDue(x, 2, 4, 2, 1);
        judgeDue(x, 1, 8, 8, 0);
        judgeDue(x, 2, 8, 8, 0);
        due("8 BAD is no judging", x.judge(0, 9, 0), BAD);
        judgeDue(x, 0, 1, 1, 1);
        due("8 BAD is no judging", x.judge(0, 0, -1), BAD);
        judgeDue(x, 1, 1, 1, 1);
    }

    private static void notShownIsFromNowhere() {
        CostFormulas x = Check.with("w a-3;x 2;", "w;");
        judgeDue(x, 0, 3, 3, 1);
        judgeDue(x, 1, 0, 0, 1);
        due("15 before", x.grows(0), 1);
        due("11 before", x.steps(0, 1, 3, 3), 2);
        judgeDue(x, 0, 2, 3, 0);
        due("9 no FORMULAS", x.shown(0, 2), 0);
        due("10 NOT", x.factor(0, 1, 0, 0), TOO_GREAT);
        due("11 NOT", x.steps(0, 1, 3, 3), TOO_GREAT);
        due("13 NOT", x.compare(0, 1), NOT);
        due("14 NOT", x.overtakes(1, 0, 3), NOT);
        due("15 NOT", x.grows(0), NOT);
        due("6 it can be counted", x.count(0, 1, 3, 0), 2);
        judgeDue(x, 0, 3, 3, 1);
        due("11 as before", x.steps(0, 1, 3, 3), 2);
    }

    /** FACTORS follow A alone, and B alone. */
    private static void shownAnewFromElsewhere() {
        CostFormulas x = Check.with("w 3*a+5*b;");
        judgeDue(x, 0, 0, 0, 1);
        due("10 from 0, 0", x.factor(0, 0, 0, 0), 0);
        judgeDue(x, 0, 2, 0, 1);
        due("10 from 2, 0", x.factor(0, 0, 0, 0), 6);
        judgeDue(x, 0, 2, 4, 1);
        due("10 from 2, 4", x.factor(0, 0, 0, 0), 26);
        judgeDue(x, 0, 2, 4, 1);
        due("10 the same once more", x.factor(0, 0, 0, 0), 26);
        judgeDue(x, 0, 1, 4, 1);
        due("10 from 1, 4", x.factor(0, 0, 0, 0), 23);
        judgeDue(x, 0, 1, 1, 1);
        due("10 from 1, 1", x.factor(0, 0, 0, 0), 8);
    }

    private static void shownRefuses() {
        CostFormulas x = Check.with("w;", "w;");
        judgeDue(x, 0, 7, 6, 1);
        int[] wrong = {-1, 3, Integer.MIN_VALUE, Integer.MAX_VALUE};
        for (int what : wrong) {
            due("9 what " + what, x.shown(0, what), BAD);
            due("9 what " + what + " of what is not SHOWN", x.shown(1, what), BAD);
        }
        int[] none = {-1, 2, Integer.MIN_VALUE, Integer.MAX_VALUE};
        for (int program : none) {
            for (int what = 0; what < 3; what++) {
                due("9 PROGRAM " + program, x.shown(program, what), BAD);
            }
        }
        due("9 A", x.shown(0, 0), 7);
        due("9 B", x.shown(0, 1), 6);
        due("9 FORMULAS", x.shown(0, 2), 1);
        due("9 A of none", x.shown(1, 0), NONE);
        due("9 B of none", x.shown(1, 1), NONE);
        due("9 FORMULAS of none", x.shown(1, 2), 0);
    }

    /** DEGREE 2; with an a of 2 there are 19998 TURNS and b more; those of i + j above 2 may well be SPENT. */
    private static void runsThatMayNotBeSpent() {
        CostFormulas x = Check.with("for i=1..99*a{for j=1..50*a{w;}}for i=1..b{}",
            "for i=1..99*b{for j=1..50*b{w;}}for i=1..a{}");
        judgeDue(x, 0, 0, 2, 1);
        due("6 20000 TURNS", x.count(0, 0, 2, 2), 19800);
        due("9 FORMULAS", x.shown(0, 2), 1);
        due("6 beyond the DEGREE it is SPENT", x.count(0, 0, 2, 3), SPENT);
        due("11 though not by the FORMULA", x.steps(0, 0, 2, 3), 19800);
        judgeDue(x, 0, 0, 3, 1);
        due("9 no FORMULAS", x.shown(0, 2), 0);
        due("10 NOT", x.factor(0, 0, 0, 0), TOO_GREAT);
        due("15 NOT", x.grows(0), NOT);
        judgeDue(x, 0, 1, 0, 1);
        due("9 an a of 3 is SPENT", x.shown(0, 2), 0);
        judgeDue(x, 0, 0, 2, 1);
        due("9 FORMULAS again", x.shown(0, 2), 1);
        judgeDue(x, 1, 2, 0, 1);
        due("9 FORMULAS by b", x.shown(1, 2), 1);
        judgeDue(x, 1, 3, 0, 1);
        due("9 no FORMULAS by b", x.shown(1, 2), 0);
        CostFormulas y = Check.shown("for i=1..a{for j=1..99*b+99*b+2{for k=1..99{}}}",
            "for i=1..a{for j=1..99*b{for k=1..99{}}}");
        due("7 DEGREE 3", y.degree(0), 3);
        due("6 with 1, 2 it is SPENT", y.count(0, 0, 1, 2), SPENT);
        due("6 with 3, 0 and 0, 3 it is not", y.count(0, 0, 3, 0) + y.count(0, 0, 0, 3), 0);
        due("9 no FORMULAS by both", y.shown(0, 2), 0);
        due("9 FORMULAS by both", y.shown(1, 2), 1);
    }

    /** What PROGRAM 3 runs in the end has the INPUT 1000000 a + b. */
    private static void runsThatMayNotBreakByAnInput() {
        CostFormulas x = Check.shown("w a;", "run 0(99*a+a+b,b);", "run 1(99*a+a,b);", "run 2(99*a+a,b);");
        due("6 1000000", x.count(3, 0, 1, 0), 1000000);
        due("9 FORMULAS", x.shown(3, 2), 1);
        due("11 beyond what can be run", x.steps(3, 0, 1000, 7), 1000000007);
        judgeDue(x, 3, 0, 1, 1);
        due("6 1000001", x.count(3, 0, 1, 1), BROKEN);
        due("9 no FORMULAS", x.shown(3, 2), 0);
        due("11 NOT", x.steps(3, 0, 0, 1), TOO_GREAT);
        due("9 what it runs has them", x.shown(2, 2), 1);
        judgeDue(x, 3, 0, 0, 1);
        due("9 FORMULAS again", x.shown(3, 2), 1);
    }

    /** DEGREE 3, from an A of 1: with an a of 4 the LINE of w is 10^11 + b. */
    private static void runsThatMayNotBreakByALine() {
        CostFormulas x = Check.shown("for i=99*a+a..99*a+a{for j=99*i+i..99*i+i{w 10*j+b;}}", "run 0(99*a+a,b);",
            "run 1(99*a+a,b);", "run 2(25*a,b);");
        judgeDue(x, 3, 1, 0, 1);
        due("7 DEGREE 3", x.degree(3), 3);
        due("6 10^11", x.count(3, 0, 4, 0), 100000000000L);
        due("9 FORMULAS", x.shown(3, 2), 1);
        judgeDue(x, 3, 1, 1, 1);
        due("6 10^11 and 1", x.count(3, 0, 4, 1), BROKEN);
        due("9 no FORMULAS", x.shown(3, 2), 0);
        judgeDue(x, 3, 2, 0, 1);
        due("9 no FORMULAS", x.shown(3, 2), 0);
        judgeDue(x, 3, 0, 8, 1);
        due("9 FORMULAS", x.shown(3, 2), 1);
    }
}
