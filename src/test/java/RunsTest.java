/** Promises 6, 8 and 9: RUNS, what is SHOWN, and which PROGRAMS have FORMULAS. */
public final class RunsTest {
    private static final Check CHECK = new Check();
    private static final int SPENT = -4, BROKEN = -5;

    public static void main(String[] args) {
        counting();
        countingWrongly();
        fors();
        spentRuns();
        whatComesFirst();
        inputsOfRuns();
        reach();
        deepest();
        judging();
        judgingVariables();
        judgingRuns();
        judgingWrongly();
        showing();
        CHECK.end();
    }

    private static void due(String what, long got, long want) {
        CHECK.due(what, got, want);
    }

    private static void countDue(String text, int a, int b, long want) {
        CostFormulas x = Check.with("w;", "w a;x b;", text);
        due("6 w of '" + text + "' with " + a + ", " + b, x.count(2, 0, a, b), want);
    }

    private static void counting() {
        CostFormulas x = Check.with("w;x 3;x a;y 2*b-1;z 7-7;");
        due("6 w", x.count(0, 0, 5, 2), 1);
        due("6 x", x.count(0, 1, 5, 2), 8);
        due("6 y", x.count(0, 2, 5, 2), 3);
        due("6 z", x.count(0, 3, 5, 2), 0);
        for (int kind = 0; kind < 4; kind++) {
            due("6 it BREAKS for each KIND", x.count(0, kind, 5, 0), BROKEN);
        }
        due("6 the greatest INPUTS", x.count(0, 1, 1000, 1000), 1003);
        due("6 no INPUTS", Check.with("").count(0, 0, 0, 0), 0);
        countDue("w a-b;", 4, 4, 0);
        countDue("w a-b;", 4, 5, BROKEN);
        countDue("w 2*a-3*b+a-7+b;", 10, 2, 19);
        countDue("run 1(2*a,b);run 1(b+1,0);run 0(a,b);", 10, 4, 26);
        due("6 of a run", Check.with("w a;x b;", "for i=1..3{run 0(i,a-i);}").count(1, 1, 7, 0), 15);
    }

    private static void countingWrongly() {
        CostFormulas x = Check.with("w;");
        due("6 BAD PROGRAM", x.count(1, 0, 0, 0), -1);
        due("6 BAD PROGRAM", x.count(-1, 0, 0, 0), -1);
        due("6 BAD KIND", x.count(0, 4, 0, 0), -1);
        due("6 BAD KIND", x.count(0, -1, 0, 0), -1);
        due("6 BAD a", x.count(0, 0, -1, 0), -1);
        due("6 BAD a", x.count(0, 0, 1001, 0), -1);
        due("6 BAD b", x.count(0, 0, 0, -1), -1);
        due("6 BAD b", x.count(0, 0, 0, 1001), -1);
    }

    private static void fors() {
        countDue("for i=3..5{w i;}", 0, 0, 12);
        countDue("for i=5..5{w i;}", 0, 0, 5);
        countDue("for i=5..4{w i;}", 0, 0, 0);
        countDue("for i=5..0{w 0-1;}", 0, 0, 0);
        countDue("for i=0-3..3{w i+3;}", 0, 0, 21);
        countDue("for i=1..a{for j=i..a{w j-i+b;}}", 4, 2, 30);
        countDue("for i=1..a{}for i=1..b{w;}", 4, 3, 3);
        countDue("for i=1..2{for j=1..3{w;}for j=1..4{w i;}w;}", 0, 0, 20);
        countDue("for j=1..2{for i=j..3{w 10*i+j;}}", 0, 0, 10 * 11 + 3 + 4);
    }

    private static void spentRuns() {
        countDue("for i=1..20*a{w;}", 1000, 0, 20000);
        countDue("for i=0..20*a{w;}", 1000, 0, SPENT);
        countDue("for i=1..20*a{w;}for i=1..b{}", 1000, 0, 20000);
        countDue("for i=1..20*a{w;}for i=1..b{}", 1000, 1, SPENT);
        countDue("for i=1..10*a{run 0(a,b);}", 1000, 0, 10000);
        countDue("for i=1..10*a{run 0(a,b);}run 0(a,b);", 1000, 0, SPENT);
        countDue("for i=1..99{for j=1..2*a+1{w;}}", 100, 0, 99 * 201);
        countDue("for i=1..99{for j=1..2*a+2{w;}}", 100, 0, SPENT);
        countDue("for i=1..a{for j=0-99*b..99*b{for k=0-99*j..99*b{}}}", 1000, 1000, SPENT);
    }

    private static void whatComesFirst() {
        countDue("for i=1..20*a{}run 0(0-1,0);", 1000, 0, SPENT);
        countDue("for i=1..20*a{}run 0(0-1,0);", 999, 0, BROKEN);
        countDue("for i=1..20*a{}w 0-1;", 1000, 0, BROKEN);
        countDue("for i=1..21*a{w 20*a-i;}", 1000, 0, SPENT);
        countDue("for i=1..21*a{w 20*a-i;}", 900, 0, BROKEN);
        countDue("for i=1..21*a{}w 0-1;", 1000, 0, SPENT);
        countDue("w 0-1;for i=1..21*a{}", 1000, 0, BROKEN);
    }

    private static void inputsOfRuns() {
        String million = "for i=10*a..10*a{for j=99*i+i..99*i+i{";
        countDue(million + "run 1(j,b);}}", 1000, 0, 1000000);
        countDue(million + "run 1(j+1,b);}}", 1000, 0, BROKEN);
        countDue(million + "run 0(b,j);}}", 1000, 0, 1);
        countDue(million + "run 0(b,j+1);}}", 1000, 0, BROKEN);
        countDue("run 0(a-1,b);", 0, 0, BROKEN);
        countDue("run 0(a,b-1);", 0, 0, BROKEN);
        countDue("run 0(a-1,b-1);", 1, 1, 1);
    }

    /** With a 1000: i is 10^5, j 10^7, k 10^9. */
    private static void reach() {
        String high = "for i=99*a+a..99*a+a{for j=99*i+i..99*i+i{for k=99*j+j..99*j+j{";
        countDue(high + "w 99*k+k;}}}", 1000, 0, 100000000000L);
        countDue(high + "w 99*k+k+1;}}}", 1000, 0, BROKEN);
        countDue(high + "w 99*k+99*k+99*k-99*k-98*k;}}}", 1000, 0, 100000000000L);
        countDue(high + "for l=0-99*k-k..0-99*k-k+4{w;}}}}", 1000, 0, 5);
        countDue(high + "for l=0-99*k-k-1..0-99*k-k+4{w;}}}}", 1000, 0, BROKEN);
        countDue(high + "for l=99*k+k+1..1{w;}}}}", 1000, 0, BROKEN);
        countDue(high + "for l=1..0-99*k-k-1{w;}}}}", 1000, 0, BROKEN);
        countDue(high + "for l=1..0-99*k-k{w;}}}}", 1000, 0, 0);
        countDue(high + "for l=99*k+k-1..99*k+k{w l;w l;w l;}}}}", 1000, 0, 599999999997L);
    }

    private static void deepest() {
        CostFormulas x = Check.with("for i=1..a{for j=1..1{for k=1..b{for l=1..1{w a+10*b;}}}}");
        for (int n = 1; n < 8; n++) {
            Check.read(x, "for m=1..1{for j=1..m{for k=1..j{for i=1..k{run " + (n - 1) + "(a,b);}}}}");
        }
        due("6 eight PROGRAMS and 32 fors deep", x.count(7, 0, 3, 2), 6 * 23);
    }

    private static void judgeDue(String text, int a, int b, int want) {
        CostFormulas x = Check.with(text);
        due("8 '" + text + "' from " + a + ", " + b, x.judge(0, a, b), want);
        due("9 A of '" + text + "'", x.shown(0, 0), want == 1 ? a : -2);
        due("9 B of '" + text + "'", x.shown(0, 1), want == 1 ? b : -2);
    }

    private static void judging() {
        judgeDue("", 0, 0, 1);
        judgeDue("w;", 8, 8, 1);
        judgeDue("w 0;", 0, 0, 1);
        judgeDue("w 0-1;", 8, 8, 0);
        judgeDue("w a-3;", 2, 8, 0);
        judgeDue("w a-3;", 3, 0, 1);
        judgeDue("w b-3;", 8, 2, 0);
        judgeDue("w b-3;", 0, 3, 1);
        judgeDue("w a+b-8;", 4, 4, 1);
        judgeDue("w a+b-8;", 4, 3, 0);
        judgeDue("w a+b-8;", 8, 0, 1);
        judgeDue("w 9-a;", 0, 0, 0);
        judgeDue("w 9+a-b;", 0, 0, 0);
        judgeDue("w 2*a-b-a+b;", 0, 0, 1);
        judgeDue("w;x 0-1;w;", 0, 0, 0);
        judgeDue("for i=1..a{}", 0, 0, 1);
        judgeDue("for i=2..a{}", 0, 0, 0);
        judgeDue("for i=2..a{}", 1, 0, 1);
        judgeDue("for i=a..b{}", 0, 8, 0);
        judgeDue("for i=a..99{}", 0, 0, 0);
        judgeDue("for i=5..3{}", 8, 8, 0);
        judgeDue("for i=5..4{}", 0, 0, 1);
        judgeDue("for i=5..4{w 0-1;}", 8, 8, 0);
        judgeDue("for i=1..a{w;}for i=1..a{w a-4;}", 3, 0, 0);
    }

    private static void judgingVariables() {
        judgeDue("for i=0..a{w i-1;}", 8, 8, 0);
        judgeDue("for i=1..a{w i-1;}", 0, 0, 1);
        judgeDue("for i=1..a{w a-i;}", 0, 0, 1);
        judgeDue("for i=1..a+1{w a-i;}", 8, 8, 0);
        judgeDue("for i=0..a{for j=i..b{}}", 0, 8, 0);
        judgeDue("for i=0..a{for j=i..a+b{}}", 0, 0, 1);
        judgeDue("for i=0..a{for j=i..2*i{w 2*i-j;}}", 0, 0, 1);
        judgeDue("for i=0..a{for j=i..2*i{w 2*i-j-1;}}", 8, 8, 0);
        judgeDue("for i=b..a+b{for j=i..a+b{w j-i;}}", 0, 0, 1);
        judgeDue("for i=b..a+b{for j=i..a+b{w j-i-1;}}", 0, 0, 0);
        judgeDue("for i=0..a{for j=i+2..a+2{w 2*j-i-4;}}", 0, 0, 1);
        judgeDue("for i=0..a{for j=i+2..a+2{w 2*j-i-5;}}", 8, 0, 0);
        judgeDue("for i=0..a{for j=0..i{for k=j..i{for l=k..i{w i-l+k-j;}}}}", 0, 0, 1);
        judgeDue("for i=0..a{for j=0..i{for k=j..i{for l=k..i{w i-l-k+j;}}}}", 0, 0, 0);
        judgeDue("for i=3..a+3{w a;}for i=0..a{for j=0..b{w i+j;}}for i=2..a+1{w i-2;}", 0, 0, 1);
        judgeDue("for i=3..a+3{w i-3;}for i=0..a{w i-3;}", 0, 0, 0);
        judgeDue("for i=1..a{for j=2..a+1{}w i-1;for j=4..a+3{w j-i-4+a;}}", 0, 0, 1);
    }

    private static void judgingRuns() {
        CostFormulas x = Check.with("w a-2;x b-1;", "run 0(a,b);", "for i=1..b{run 0(a+i,i);}", "run 0(b,a);");
        due("8 what it runs never was SHOWN", x.judge(1, 8, 8), 0);
        due("8 that one", x.judge(0, 2, 1), 1);
        due("8 from the same", x.judge(1, 2, 1), 1);
        due("8 a less", x.judge(1, 1, 1), 0);
        due("8 b less", x.judge(1, 2, 0), 0);
        due("8 turned", x.judge(3, 1, 2), 1);
        due("8 turned", x.judge(3, 2, 1), 0);
        due("8 with a VARIABLE", x.judge(2, 1, 0), 1);
        due("8 with a VARIABLE", x.judge(2, 0, 0), 0);
        x.judge(1, 2, 1);
        due("8 from further on", x.judge(0, 3, 1), 1);
        due("9 what was judged stays", x.shown(1, 0), 2);
        due("8 the latest is what counts", x.judge(1, 2, 1), 0);
        due("8 the latest is what counts", x.judge(1, 3, 1), 1);
        due("8 not from 1", x.judge(0, 1, 1), 0);
        due("9 what was judged stays", x.shown(1, 0), 3);
        due("8 SHOWN from nowhere now", x.judge(1, 8, 8), 0);
        CostFormulas y = Check.with("for i=0..a{w i;}", "for i=1..2{for j=1..2{for k=1..2{run 0(a,b);}}}",
            "for i=1..2{for j=1..2{for k=1..2{for l=1..2{run 0(a,b);}}}}", "run 2(a,b);");
        due("8 DEGREE 2", y.judge(0, 0, 0), 1);
        due("8 DEGREE 5", y.judge(1, 0, 0), 1);
        due("8 DEGREE 6", y.judge(2, 8, 8), 0);
        due("8 DEGREE 6", y.judge(3, 8, 8), 0);
    }

    private static void judgingWrongly() {
        CostFormulas x = Check.with("w a-2;");
        due("8 SHOWN", x.judge(0, 3, 4), 1);
        due("8 BAD PROGRAM", x.judge(1, 3, 4), -1);
        due("8 BAD PROGRAM", x.judge(-1, 3, 4), -1);
        due("8 BAD A", x.judge(0, -1, 0), -1);
        due("8 BAD A", x.judge(0, 9, 0), -1);
        due("8 BAD B", x.judge(0, 3, -1), -1);
        due("8 BAD B", x.judge(0, 3, 9), -1);
        due("8 what is BAD changes nothing", x.shown(0, 0), 3);
        due("8 what is BAD changes nothing", x.shown(0, 1), 4);
        due("8 not SHOWN", x.judge(0, 1, 0), 0);
        due("8 from nowhere then", x.shown(0, 0), -2);
        due("8 from nowhere then", x.shown(0, 1), -2);
        due("8 from nowhere then", x.shown(0, 2), 0);
    }

    private static void showing() {
        CostFormulas x = Check.with("for i=1..99*a{for j=1..50*a{}}", "w a;",
            "for i=99..99{for j=99*i..99*i{for k=99*j..99*j{run 1(2*k,b);}}}", "w 1;");
        due("9 not judged", x.shown(0, 2), 0);
        due("9 judged", x.judge(0, 0, 0), 1);
        due("9 with 2 there are 19998 TURNS", x.shown(0, 2), 1);
        due("9 judged", x.judge(0, 1, 0), 1);
        due("9 with 3 it is SPENT", x.shown(0, 2), 0);
        due("9 even so SHOWN", x.shown(0, 0), 1);
        due("9 back", x.judge(0, 0, 7), 1);
        due("9 back", x.shown(0, 2), 1);
        due("9 B", x.shown(0, 1), 7);
        x.judge(1, 0, 0);
        due("9 judged", x.judge(2, 0, 0), 1);
        due("9 a run's INPUT is above 1000000", x.shown(2, 2), 0);
        due("9 there it has them", x.shown(1, 2), 1);
        due("9 BAD PROGRAM", x.shown(4, 0), -1);
        due("9 BAD PROGRAM", x.shown(-1, 0), -1);
        due("9 BAD what", x.shown(3, 3), -1);
        due("9 BAD what", x.shown(3, -1), -1);
        due("9 NONE", x.shown(3, 0), -2);
        due("9 NONE", x.shown(3, 1), -2);
    }
}
