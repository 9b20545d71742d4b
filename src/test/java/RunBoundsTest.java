/** The boundaries of RUNS, a sentence of the document at a time; promise 6. */
public final class RunBoundsTest {
    private static final Check CHECK = new Check();
    private static final int BAD = -1, SPENT = -4, BROKEN = -5;
    private static final int[] FAR = {Integer.MIN_VALUE, Integer.MAX_VALUE};

    public static void main(String[] args) {
        programsThatThereAre();
        kindsAre0To3();
        inputsAre0To1000();
        aStepsLineIs0OrMore();
        aForWithoutNumbers();
        aForRises();
        aRunsInputsAre0OrMore();
        aRunsInputsAre1000000AtMost();
        turnsOfFors();
        turnsOfRuns();
        turnsOfWhatIsRun();
        noTurnOfWhatIsNotDone();
        aLineIsNotBeyond10To11();
        aLineIsReckonedExactly();
        whatIsNotReckonedDoesNotBreak();
        whatComesFirst();
        whatEndedARunIsForgotten();
        CHECK.end();
    }

    private static void due(String what, long got, long want) {
        CHECK.due(what, got, want);
    }

    /** PROGRAMS 0 and 1 stand ahead of the text; what is counted then is counted again after it. */
    private static void countDue(String text, int a, int b, long want) {
        CostFormulas x = Check.with("w;", "w a;x b;", text);
        String call = "6 w of '" + text + "' with " + a + ", " + b;
        due(call, x.count(2, 0, a, b), want);
        due("6 x of PROGRAM 1 after '" + text + "'", x.count(1, 1, 3, 4), 4);
        due(call + " once more", x.count(2, 0, a, b), want);
    }

    private static void programsThatThereAre() {
        CostFormulas x = Check.with("w 5;", "w 6;");
        due("6 the first", x.count(0, 0, 0, 0), 5);
        due("6 the last", x.count(1, 0, 0, 0), 6);
        due("6 below", x.count(-1, 0, 0, 0), BAD);
        due("6 behind the last", x.count(2, 0, 0, 0), BAD);
        for (int far : FAR) {
            due("6 far", x.count(far, 0, 0, 0), BAD);
        }
        x.drop();
        due("6 it went", x.count(1, 0, 0, 0), BAD);
        due("6 the first stays", x.count(0, 0, 0, 0), 5);
    }

    private static void kindsAre0To3() {
        CostFormulas x = Check.with("w 1;x 2;y 3;z 4;");
        for (int kind = 0; kind < 4; kind++) {
            due("6 KIND " + kind, x.count(0, kind, 0, 0), kind + 1);
        }
        due("6 KIND -1", x.count(0, -1, 0, 0), BAD);
        due("6 KIND 4", x.count(0, 4, 0, 0), BAD);
        for (int far : FAR) {
            due("6 KIND far", x.count(0, far, 0, 0), BAD);
        }
        due("6 afterwards", x.count(0, 3, 0, 0), 4);
    }

    private static void inputsAre0To1000() {
        CostFormulas x = Check.with("w a;x b;");
        due("6 the least a", x.count(0, 0, 0, 7), 0);
        due("6 the least b", x.count(0, 1, 7, 0), 0);
        due("6 the greatest a", x.count(0, 0, 1000, 7), 1000);
        due("6 the greatest b", x.count(0, 1, 7, 1000), 1000);
        int[] wrong = {-1, 1001, Integer.MIN_VALUE, Integer.MAX_VALUE};
        for (int input : wrong) {
            due("6 a " + input, x.count(0, 0, input, 7), BAD);
            due("6 b " + input, x.count(0, 1, 7, input), BAD);
            due("6 afterwards", x.count(0, 0, 7, 8), 7);
        }
    }

    private static void aStepsLineIs0OrMore() {
        countDue("w a-5;", 6, 0, 1);
        countDue("w a-5;", 5, 0, 0);
        countDue("w a-5;", 4, 0, BROKEN);
        countDue("w 7;w b-1;w 7;", 0, 1, 14);
        countDue("w 7;x b-1;w 7;", 0, 0, BROKEN);
        countDue("for i=0..a{w i;}", 3, 0, 6);
        countDue("for i=0..a{w 3-i;}", 3, 0, 6);
        countDue("for i=0..a{w 3-i;}", 4, 0, BROKEN);
        countDue("run 1(3,3);w a-1;", 0, 0, BROKEN);
        CostFormulas x = Check.with("w a-5;", "run 0(a,b);x;");
        due("6 it BREAKS in what is run", x.count(1, 1, 4, 0), BROKEN);
        due("6 it does not", x.count(1, 1, 5, 0), 1);
    }

    private static void aForWithoutNumbers() {
        countDue("for i=5..a{w;}", 6, 0, 2);
        countDue("for i=5..a{w;}", 5, 0, 1);
        countDue("for i=5..a{w;}", 4, 0, 0);
        countDue("for i=5..a{w;}", 3, 0, 0);
        countDue("for i=5..a{w;}", 0, 0, 0);
        countDue("for i=a..0-99*a{w;}w;", 1000, 0, 1);
        countDue("for i=0..0{w;}", 0, 0, 1);
        countDue("for i=0-2..0-2{w;}", 0, 0, 1);
        countDue("for i=0-2..0-3{w;}", 0, 0, 0);
    }

    private static void aForRises() {
        countDue("for i=a..b{w i;}", 3, 6, 18);
        countDue("for i=a..b{w i;}", 6, 3, 0);
        countDue("for i=0-a..a{w i+a;}", 3, 0, 21);
        countDue("for i=0..3{for j=1..i{w i-j;}w 2*i-a;}", 0, 0, 4 + 12);
        countDue("for i=a..9{for j=1..9-i{}w i-a;}", 2, 0, 28);
        countDue("for i=2..3{for j=i..4{for k=j..5{for l=k..6{w l;}}}}", 0, 0, sumOfFour());
    }

    private static long sumOfFour() {
        long sum = 0;
        for (int i = 2; i <= 3; i++) {
            for (int j = i; j <= 4; j++) {
                for (int k = j; k <= 5; k++) {
                    for (int l = k; l <= 6; l++) {
                        sum += l;
                    }
                }
            }
        }
        return sum;
    }

    private static void aRunsInputsAre0OrMore() {
        countDue("run 1(a-2,b);", 2, 5, 0);
        countDue("run 1(a-2,b);", 1, 5, BROKEN);
        countDue("run 0(a,b-2);", 5, 2, 1);
        countDue("run 0(a,b-2);", 5, 1, BROKEN);
        countDue("run 0(a-1,b-1);", 1, 1, 1);
        countDue("for i=0..a{run 0(3-i,i);}", 3, 0, 4);
        countDue("for i=0..a{run 0(3-i,i);}", 4, 0, BROKEN);
    }

    /** With a 1000: 10 a is 10^4, and 100 times that is 10^6. */
    private static void aRunsInputsAre1000000AtMost() {
        String million = "for i=10*a..10*a{for j=99*i+i..99*i+i{";
        countDue(million + "run 1(j-1,b);}}", 1000, 0, 999999);
        countDue(million + "run 1(j,b);}}", 1000, 0, 1000000);
        countDue(million + "run 1(j+1,b);}}", 1000, 0, BROKEN);
        countDue(million + "run 0(b,j);}}", 1000, 0, 1);
        countDue(million + "run 0(b,j+1);}}", 1000, 0, BROKEN);
        countDue(million + "run 0(j,j);w 3;}}", 1000, 0, 4);
        countDue(million + "run 0(99*j,0);}}", 1000, 0, BROKEN);
        CostFormulas x = Check.with("x b;", million + "run 0(1,j);}}", million + "run 0(1,j+1);}}");
        due("6 b in what is run", x.count(1, 1, 1000, 0), 1000000);
        due("6 b above", x.count(2, 1, 1000, 0), BROKEN);
    }

    private static void turnsOfFors() {
        countDue("for i=1..20*a{w;}", 999, 0, 19980);
        countDue("for i=1..20*a{w;}", 1000, 0, 20000);
        countDue("for i=0..20*a{w;}", 1000, 0, SPENT);
        countDue("for i=1..20*a+b{w;}", 1000, 1, SPENT);
        countDue("for i=1..19*a{w;}for i=1..a-1{w;}for j=1..b{w;}", 1000, 1, 20000);
        countDue("for i=1..19*a{w;}for i=1..a-1{w;}for j=1..b{w;}", 1000, 2, SPENT);
        countDue("for i=1..80{for j=1..a{w;}}", 249, 0, 80 * 249);
        countDue("for i=1..80{for j=1..a-1{w;}}", 250, 0, 80 * 249);
        countDue("for i=1..80{for j=1..a{w;}}", 250, 0, SPENT);
        countDue("for i=1..80{for j=1..a{w;}}for k=1..b{w;}", 249, 0, 19920);
        countDue("for k=1..b{}for i=1..a{for j=1..a-1{w;}}", 141, 119, 141 * 140);
        countDue("for k=1..b{}for i=1..a{for j=1..a-1{w;}}", 141, 120, SPENT);
        countDue("for i=1..a{for j=1..b{for k=1..0-9{}}w;}", 100, 199, 100);
        countDue("for i=1..a{for j=1..b{for k=1..0-9{}}w;}", 100, 200, SPENT);
        countDue("for i=0-99*a..99*a{}", 1000, 0, SPENT);
    }

    private static void turnsOfRuns() {
        countDue("for i=1..10*a{run 0(a,b);}", 1000, 0, 10000);
        countDue("for i=1..10*a{run 0(a,b);}w;", 1000, 0, 10001);
        countDue("for i=1..10*a{run 0(a,b);}run 0(a,b);", 1000, 0, SPENT);
        countDue("run 0(a,b);for i=1..10*a{run 0(a,b);}", 1000, 0, SPENT);
        countDue("run 0(a,b);for i=1..20*a{w;}", 999, 0, 19981);
        countDue("run 0(a,b);for i=1..20*a-1{w;}", 1000, 0, 20000);
        countDue("run 0(a,b);for i=1..20*a{w;}", 1000, 0, SPENT);
        countDue("for i=1..20*a{w;}run 0(a,b);", 1000, 0, SPENT);
    }

    private static void turnsOfWhatIsRun() {
        CostFormulas x = Check.with("for i=1..20*a{w;}", "run 0(a,b);for j=1..b{x;}", "run 1(a,b);y;");
        due("6 20000", x.count(0, 0, 1000, 0), 20000);
        due("6 one more for the run", x.count(1, 0, 1000, 0), SPENT);
        due("6 19980, 1, 19", x.count(1, 0, 999, 19), 19980);
        due("6 19980, 1, 19", x.count(1, 1, 999, 19), 19);
        due("6 19980, 1, 20", x.count(1, 1, 999, 20), SPENT);
        due("6 19980, 2, 18", x.count(2, 2, 999, 18), 1);
        due("6 19980, 2, 19", x.count(2, 2, 999, 19), SPENT);
        due("6 the first once more", x.count(0, 0, 1000, 0), 20000);
    }

    private static void noTurnOfWhatIsNotDone() {
        countDue("for i=1..20*a{w;for j=1..0{}for k=9..8{}}w;w 5;", 1000, 0, 20006);
        countDue("for i=1..20*a{w;}for j=1..b{}", 1000, 0, 20000);
        countDue("for i=1..20*a{w;}for j=1..b{}", 1000, 1, SPENT);
        countDue("for i=1..20*a{w;}for j=1..b{run 0(a,b);}", 1000, 0, 20000);
    }

    /** With a 1000: i is 10^5, j 10^7, k 10^9. */
    private static final String HIGH = "for i=99*a+a..99*a+a{for j=99*i+i..99*i+i{for k=99*j+j..99*j+j{";
    private static final long REACH = 100000000000L;

    private static void aLineIsNotBeyond10To11() {
        countDue(HIGH + "w 99*k+k-1;}}}", 1000, 0, REACH - 1);
        countDue(HIGH + "w 99*k+k;}}}", 1000, 0, REACH);
        countDue(HIGH + "w 99*k+k+1;}}}", 1000, 0, BROKEN);
        countDue(HIGH + "w 99*k+k+b;}}}", 1000, 1, BROKEN);
        countDue(HIGH + "for l=99*k+k..99*k+k{w;}}}}", 1000, 0, 1);
        countDue(HIGH + "for l=99*k+k+1..99*k+k{w;}}}}", 1000, 0, BROKEN);
        countDue(HIGH + "for l=99*k+k..99*k+k+1{w;}}}}", 1000, 0, BROKEN);
        countDue(HIGH + "for l=99*k+k..0{w;}w;}}}", 1000, 0, 1);
        countDue(HIGH + "for l=99*k+k+1..0{w;}w;}}}", 1000, 0, BROKEN);
        countDue(HIGH + "for l=0-99*k-k..0-99*k-k{w;}}}}", 1000, 0, 1);
        countDue(HIGH + "for l=0-99*k-k-1..0-99*k-k{w;}}}}", 1000, 0, BROKEN);
        countDue(HIGH + "for l=1..0-99*k-k{w;}w;}}}", 1000, 0, 1);
        countDue(HIGH + "for l=1..0-99*k-k-1{w;}w;}}}", 1000, 0, BROKEN);
        countDue(HIGH + "for l=0-99*k-k..0-99*k-k+2{w l+99*k+k;}}}}", 1000, 0, 3);
        countDue(HIGH + "for l=99*k+k-2..99*k+k{w l;}}}}", 1000, 0, 3 * REACH - 3);
        countDue(HIGH + "w 0-99*k-k-1;}}}", 1000, 0, BROKEN);
    }

    private static void aLineIsReckonedExactly() {
        countDue(HIGH + "w 99*k+99*k+99*k+99*k-99*k-99*k-98*k;}}}", 1000, 0, REACH);
        countDue(HIGH + "w 99*k+99*k+99*k+99*k-99*k-99*k-98*k+1;}}}", 1000, 0, BROKEN);
        countDue(HIGH + "w 0-99*k-99*k-99*k+99*k+99*k+99*k+5;}}}", 1000, 0, 5);
        countDue(HIGH + "run 1(99*k+99*k-99*k-99*k+6,b);}}}", 1000, 0, 6);
        countDue(HIGH + "for l=99*k+99*k-99*k-99*k..3+99*k+99*k-99*k-99*k{w;}}}}", 1000, 0, 4);
    }

    private static void whatIsNotReckonedDoesNotBreak() {
        countDue("for i=1..0{w 0-1;run 0(0-1,0);}w;", 0, 0, 1);
        countDue(HIGH + "for l=1..0{w 99*k+2*k;}w;}}}", 1000, 0, 1);
        countDue("for i=1..a{w 0-1;}w;", 0, 0, 1);
        countDue("for i=1..a{w 0-1;}w;", 1, 0, BROKEN);
    }

    private static void whatComesFirst() {
        countDue("for i=1..20*a{}w 0-1;", 1000, 0, BROKEN);
        countDue("for i=0..20*a{}w 0-1;", 1000, 0, SPENT);
        countDue("w 0-1;for i=0..20*a{}", 1000, 0, BROKEN);
        countDue("for i=1..20*a{}run 0(0-1,0);", 1000, 0, SPENT);
        countDue("for i=1..20*a-1{}run 0(0-1,0);", 1000, 0, BROKEN);
        countDue("for i=1..20*a-1{}run 0(0,0-1);", 1000, 0, BROKEN);
        countDue("for i=0..20*a{w 20*a-2-i;}", 1000, 0, BROKEN);
        countDue("for i=0..20*a{w 20*a-1-i;}", 1000, 0, SPENT);
        countDue(HIGH + "for l=1..99*k+k{}}}}", 1000, 0, SPENT);
        countDue(HIGH + "for l=1..99*k+k+1{}}}}", 1000, 0, BROKEN);
    }

    private static void whatEndedARunIsForgotten() {
        CostFormulas x = Check.with("for i=1..20*a{w;}w b-1;", "run 0(a,b);run 0(a,b);");
        due("6 fine", x.count(0, 0, 1000, 1), 20000);
        due("6 BREAKS", x.count(0, 0, 1000, 0), BROKEN);
        due("6 fine again", x.count(0, 0, 1000, 1), 20000);
        due("6 SPENT", x.count(1, 0, 500, 1), SPENT);
        due("6 fine again", x.count(1, 0, 499, 1), 19960);
        due("6 BREAKS", x.count(1, 0, 500, 0), BROKEN);
        due("6 the steps begin at 0", x.count(0, 0, 0, 6), 5);
    }
}
