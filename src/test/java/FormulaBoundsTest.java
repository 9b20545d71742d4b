/** The boundaries of FACTORS, COSTS and what is TOO GREAT, a sentence of the document at a time; promises 10 to 16. */
public final class FormulaBoundsTest {
    private static final Check CHECK = new Check();
    private static final int BAD = -1, NONE = -2, NOT = -3, SPENT = -4;
    private static final long TOO_GREAT = -9000000000000000000L;
    private static final long TEN_12 = 1000000000000L;
    private static final long TEN_15 = 1000 * TEN_12;
    private static final long TEN_18 = 1000 * TEN_15;
    private static final int[] FAR = {Integer.MIN_VALUE, Integer.MAX_VALUE};
    /** SHOWN from anywhere, but from an a of 3 on its RUNS are SPENT: no FORMULAS from 1, 0 on. */
    private static final String SPENDS = "for i=1..99*a{for j=1..50*a{w;}}";

    public static void main(String[] args) {
        factorsAreOf0To5();
        factorsBeyondTheDegreeAre0();
        factorRefuses();
        inputsAreFromTheStartTo1000();
        formulasHoldFromTheStartOn();
        stepsHaveKindsAndACost();
        stepsRefuses();
        pricesAre0To1000();
        toldIs0To5();
        aFactorTimesAChoiceOf10To18();
        aFactorTimesBothChoicesOf10To18();
        aFactorTimesAPriceOf10To18();
        aSumOfKindsOf10To18();
        aSumOfFactorsOf10To18();
        comparedProductsOf10To18();
        comparedSumsOfMinus10To18();
        comparedCostsOf10To18();
        comparedFromTheGreaterStart();
        comparedUpToTheGreaterDegree();
        compareRefuses();
        overtakesTo1000();
        overtakesFromTheGreaterA();
        overtakesFromTheGreaterB();
        overtakesTillANumberIsTooGreat();
        overtakesRefuses();
        growsUpToTheDegree();
        growsRefuses();
        CHECK.end();
    }

    private static void due(String what, long got, long want) {
        CHECK.due(what, got, want);
    }

    private static void factorsAreOf0To5() {
        CostFormulas x = Check.shown("for i=1..a{for j=1..a{for k=1..a{for l=1..a{w a;}}}}",
            "for i=1..b{for j=1..b{for k=1..b{for l=1..b{z b;}}}}");
        // a^5 is the sum of these times C(a, i).
        long[] fifth = {0, 1, 30, 150, 240, 120};
        for (int n = 0; n <= 5; n++) {
            due("10 i " + n, x.factor(0, 0, n, 0), fifth[n]);
            due("10 j " + n, x.factor(1, 3, 0, n), fifth[n]);
            due("10 other KIND", x.factor(1, 2, 0, n), 0);
        }
        due("10 i 6", x.factor(0, 0, 6, 0), TOO_GREAT);
        due("10 j 6", x.factor(1, 3, 0, 6), TOO_GREAT);
        due("10 i -1", x.factor(0, 0, -1, 0), TOO_GREAT);
        due("10 j -1", x.factor(0, 0, 0, -1), TOO_GREAT);
        due("10 i 6, j -1", x.factor(0, 0, 6, -1), TOO_GREAT);
        due("10 afterwards", x.factor(0, 0, 5, 0), 120);
    }

    private static void factorsBeyondTheDegreeAre0() {
        CostFormulas x = Check.shown("w;", "w a+b;", "for i=1..a{for j=1..b{w;}}",
            "for i=1..a{for j=1..a{for k=1..b{for l=1..b{w b;}}}}");
        int[] degrees = {0, 1, 2, 5};
        for (int n = 0; n < 4; n++) {
            due("7 DEGREE", x.degree(n), degrees[n]);
            for (int i = 0; i <= 5; i++) {
                for (int j = Math.max(0, degrees[n] + 1 - i); j <= 5; j++) {
                    due("10 " + i + ", " + j + " of PROGRAM " + n, x.factor(n, 0, i, j), 0);
                }
            }
        }
        due("10 i + j is the DEGREE", x.factor(0, 0, 0, 0), 1);
        due("10 i + j is the DEGREE", x.factor(1, 0, 1, 0), 1);
        due("10 i + j is the DEGREE", x.factor(1, 0, 0, 1), 1);
        due("10 i + j is the DEGREE", x.factor(2, 0, 1, 1), 1);
        due("10 i + j is the DEGREE", x.factor(3, 0, 2, 3), 12);
        due("10 i + j is the DEGREE", x.factor(3, 0, 3, 2), 0);
        due("10 i + j is less", x.factor(3, 0, 1, 1), 1);
    }

    private static void factorRefuses() {
        CostFormulas x = Check.with("w 4;z 6;", "w 5;", SPENDS, "w a-3;");
        x.judge(0, 0, 0);
        due("8 SHOWN", x.judge(2, 1, 0), 1);
        due("8 not SHOWN", x.judge(3, 2, 0), 0);
        int[] without = {1, 2, 3, 4, -1, Integer.MIN_VALUE, Integer.MAX_VALUE};
        for (int program : without) {
            due("10 PROGRAM " + program, x.factor(program, 0, 0, 0), TOO_GREAT);
            due("10 PROGRAM " + program + " beyond a DEGREE", x.factor(program, 0, 5, 5), TOO_GREAT);
        }
        due("10 KIND -1", x.factor(0, -1, 0, 0), TOO_GREAT);
        due("10 KIND 4", x.factor(0, 4, 0, 0), TOO_GREAT);
        for (int far : FAR) {
            due("10 KIND far", x.factor(0, far, 0, 0), TOO_GREAT);
            due("10 i far", x.factor(0, 0, far, 0), TOO_GREAT);
            due("10 j far", x.factor(0, 0, 0, far), TOO_GREAT);
        }
        due("10 the first KIND", x.factor(0, 0, 0, 0), 4);
        due("10 the last KIND", x.factor(0, 3, 0, 0), 6);
    }

    private static void inputsAreFromTheStartTo1000() {
        CostFormulas x = Check.with("w 2*a+3*b;");
        for (int start = 0; start <= 8; start += 4) {
            x.judge(0, start, 8 - start);
            due("11 A", x.steps(0, 0, start, 500), 2 * start + 1500);
            due("11 below A", x.steps(0, 0, start - 1, 500), TOO_GREAT);
            due("11 B", x.steps(0, 0, 500, 8 - start), 1000 + 3 * (8 - start));
            due("11 below B", x.steps(0, 0, 500, 7 - start), TOO_GREAT);
            due("11 A, B", x.steps(0, 0, start, 8 - start), 2 * start + 3 * (8 - start));
        }
        due("11 a 1000", x.steps(0, 0, 1000, 500), 3500);
        due("11 a 1001", x.steps(0, 0, 1001, 500), TOO_GREAT);
        due("11 b 1000", x.steps(0, 0, 500, 1000), 4000);
        due("11 b 1001", x.steps(0, 0, 500, 1001), TOO_GREAT);
        due("11 both 1000", x.steps(0, 0, 1000, 1000), 5000);
        for (int far : FAR) {
            due("11 a far", x.steps(0, 0, far, 500), TOO_GREAT);
            due("11 b far", x.steps(0, 0, 500, far), TOO_GREAT);
        }
        due("11 afterwards", x.steps(0, 0, 8, 0), 16);
    }

    /** Fors that have no number at the start, VARIABLES that go off, runs from where they are SHOWN on. */
    private static void formulasHoldFromTheStartOn() {
        holdsFrom(2, 0, "for i=3..a{w i-3;x;}");
        holdsFrom(3, 1, "for i=3..a-1{for j=i+1..a-1{w j-i;x a-j;}}w a+b-4;");
        holdsFrom(0, 0, "for i=0-b..a{w i+b;x a-i;for j=i..a{w j+b;}}");
        holdsFrom(0, 2, "for i=b..a+b-1{for j=2..i+1{w i+1-j;}for k=2..b{x k-2+a;}}");
        holdsFrom(1, 1, "w a-1;x b-1;", "for i=1..a{for j=i..a{run 0(j-i+1,b);}}", "run 1(a+b,2*b+3);run 0(b,a);");
        holdsFrom(0, 0, "for i=1..a{for j=1..i{for k=j..i{for l=1..b{w l+i-k;}x k;}}}");
    }

    /** Of the last PROGRAM: the FORMULA tells at the start and behind it what a RUN counts. */
    private static void holdsFrom(int startA, int startB, String... texts) {
        CostFormulas x = Check.with(texts);
        int last = texts.length - 1;
        for (int n = 0; n <= last; n++) {
            due("8 '" + texts[n] + "'", x.judge(n, startA, startB), 1);
        }
        due("9 FORMULAS of '" + texts[last] + "'", x.shown(last, 2), 1);
        for (int a = startA; a <= startA + 9; a++) {
            for (int b = startB; b <= startB + 9; b++) {
                int kind = (a + b) % 2;
                long counted = x.count(last, kind, a, b);
                due("11 '" + texts[last] + "' with " + a + ", " + b, x.steps(last, kind, a, b), counted);
            }
        }
        due("11 below A", x.steps(last, 0, startA - 1, startB), TOO_GREAT);
        due("11 below B", x.steps(last, 0, startA, startB - 1), TOO_GREAT);
    }

    private static void stepsHaveKindsAndACost() {
        CostFormulas x = Check.shown("w a;x 2*a;y 3*a;z 4*a;");
        for (int kind = 0; kind < 4; kind++) {
            due("11 KIND " + kind, x.steps(0, kind, 100, 0), 100 * (kind + 1));
            due("11 its COST with PRICES before " + kind, x.steps(0, -1, 1, 0), new int[] {10, 9, 7, 4}[kind]);
            x.price(kind, 0);
        }
        due("11 COST of nothing", x.steps(0, -1, 1, 0), 0);
        due("11 KIND -2", x.steps(0, -2, 1, 0), TOO_GREAT);
        due("11 KIND 4", x.steps(0, 4, 1, 0), TOO_GREAT);
        for (int far : FAR) {
            due("11 KIND far", x.steps(0, far, 1, 0), TOO_GREAT);
        }
        due("11 KINDS have no PRICE", x.steps(0, 3, 1, 0), 4);
    }

    private static void stepsRefuses() {
        CostFormulas x = Check.with("w a;", "w a;", SPENDS, "w a-3;");
        x.judge(0, 0, 0);
        due("8 SHOWN", x.judge(2, 1, 0), 1);
        due("8 not SHOWN", x.judge(3, 2, 0), 0);
        int[] without = {1, 2, 3, 4, -1, Integer.MIN_VALUE, Integer.MAX_VALUE};
        for (int program : without) {
            due("11 PROGRAM " + program, x.steps(program, 0, 5, 5), TOO_GREAT);
            due("11 COST of PROGRAM " + program, x.steps(program, -1, 5, 5), TOO_GREAT);
        }
        due("11 the one that has them", x.steps(0, 0, 5, 5), 5);
    }

    private static void pricesAre0To1000() {
        CostFormulas x = Check.shown("w 5;x 5;y 5;z 5;");
        for (int kind = 0; kind < 4; kind++) {
            due("12 was 1", x.price(kind, 0), 1);
            due("12 was 0", x.price(kind, 1000), 0);
            due("12 -1", x.price(kind, -1), BAD);
            due("12 1001", x.price(kind, 1001), BAD);
            for (int far : FAR) {
                due("12 far", x.price(kind, far), BAD);
                due("12 KIND far", x.price(far, 5), BAD);
            }
            due("12 stays 1000", x.told(2 + kind), 1000);
            due("12 the same", x.price(kind, 1000), 1000);
        }
        due("12 KIND -1", x.price(-1, 5), BAD);
        due("12 KIND 4", x.price(4, 5), BAD);
        due("12 KIND 4 and PRICE 1001", x.price(4, 1001), BAD);
        due("12 COST", x.steps(0, -1, 0, 0), 20000);
        x.drop();
        due("12 PRICES stay without PROGRAMS", x.price(0, 3), 1000);
    }

    private static void toldIs0To5() {
        CostFormulas x = Check.with("w;", "w;");
        Check.put(x, "w;w");
        x.price(0, 10);
        x.price(3, 13);
        int[] want = {2, 3, 10, 1, 1, 13};
        for (int what = 0; what <= 5; what++) {
            due("16 " + what, x.told(what), want[what]);
        }
        due("16 -1", x.told(-1), BAD);
        due("16 6", x.told(6), BAD);
        int[] far = {7, Integer.MAX_VALUE, Integer.MAX_VALUE - 1, Integer.MIN_VALUE, Integer.MIN_VALUE + 1, -2};
        for (int what : far) {
            due("16 " + what, x.told(what), BAD);
        }
        due("16 afterwards", x.told(1), 3);
    }

    private static void aFactorTimesAChoiceOf10To18() {
        CostFormulas x = Great.times10To15();
        due("10 10^15", x.factor(4, 0, 1, 0), TEN_15);
        due("10 10^15 and 1", x.factor(6, 0, 1, 0), TEN_15 + 1);
        due("11 10^18", x.steps(4, 0, 1000, 0), TEN_18);
        due("11 COST 10^18", x.steps(4, -1, 1000, 1000), TEN_18);
        due("11 less than 10^18", x.steps(6, 0, 999, 0), 999 * (TEN_15 + 1));
        due("11 more than 10^18", x.steps(6, 0, 1000, 0), TOO_GREAT);
        due("11 COST of more than 10^18", x.steps(6, -1, 1000, 0), TOO_GREAT);
        due("11 other KINDS", x.steps(6, 1, 1000, 0), 0);
        due("11 afterwards", x.steps(6, 0, 1, 0), TEN_15 + 1);
    }

    private static void aFactorTimesBothChoicesOf10To18() {
        CostFormulas x = Great.times10To12();
        due("10 10^12", x.factor(5, 0, 1, 1), TEN_12);
        due("11 10^18", x.steps(5, 0, 1000, 1000), TEN_18);
        due("11 less", x.steps(6, 0, 999, 1000), (TEN_12 + 1) * 999000);
        due("11 less", x.steps(6, 0, 1000, 999), (TEN_12 + 1) * 999000);
        due("11 more", x.steps(6, 0, 1000, 1000), TOO_GREAT);
        x.price(0, 1000);
        due("11 the product of both C comes first", x.steps(6, -1, 1000, 0), 0);
        due("11 the product of both C comes first", x.steps(6, -1, 0, 1000), 0);
        due("11 not 0 any more", x.steps(6, -1, 1000, 1), TOO_GREAT);
        due("11 10^18 with a PRICE", x.steps(5, -1, 1000, 1), TEN_18);
        due("11 more with a PRICE", x.steps(5, -1, 1000, 2), TOO_GREAT);
    }

    private static void aFactorTimesAPriceOf10To18() {
        CostFormulas x = Great.times10To15();
        x.price(0, 1000);
        due("15 10^18", x.grows(4), 1);
        due("11 10^18", x.steps(4, -1, 1, 0), TEN_18);
        due("11 nothing", x.steps(4, -1, 0, 0), 0);
        due("11 twice 10^18", x.steps(4, -1, 2, 0), TOO_GREAT);
        due("15 more", x.grows(6), SPENT);
        due("11 more", x.steps(6, -1, 1, 0), TOO_GREAT);
        due("11 more, though its C is 0", x.steps(6, -1, 0, 0), TOO_GREAT);
        due("13 more", x.compare(7, 6), SPENT);
        due("14 more", x.overtakes(7, 6, 0), SPENT);
        due("11 KINDS have no PRICE", x.steps(6, 0, 1, 0), TEN_15 + 1);
        x.price(0, 999);
        due("15 less", x.grows(6), 1);
        due("11 less", x.steps(6, -1, 1, 0), (TEN_15 + 1) * 999);
    }

    private static void aSumOfKindsOf10To18() {
        CostFormulas x = Great.times10To15();
        x.drop();
        x.drop();
        due("4 with x", Check.read(x, "run4(a,b);x a;"), 6);
        due("4 with z", Check.read(x, "run4(a,b);z a;"), 7);
        x.judge(6, 0, 0);
        x.judge(7, 0, 0);
        x.price(0, 1000);
        x.price(1, 0);
        due("15 10^18 and 0", x.grows(6), 1);
        due("11 10^18 and 0", x.steps(6, -1, 1, 0), TEN_18);
        x.price(1, 1);
        due("15 10^18 and 1", x.grows(6), SPENT);
        due("11 10^18 and 1", x.steps(6, -1, 1, 0), TOO_GREAT);
        due("15 10^18 and 1 of z", x.grows(7), SPENT);
        x.price(0, 999);
        x.price(1, 1000);
        due("11 less, and 1000", x.steps(6, -1, 1, 0), 999 * TEN_15 + 1000);
        due("15 less, and 1000", x.grows(6), 1);
    }

    private static void aSumOfFactorsOf10To18() {
        CostFormulas x = Great.times10To15();
        due("11 10^18 and 0", x.steps(5, 0, 1000, 0), TEN_18);
        due("11 10^18 and 1", x.steps(5, 0, 1000, 1), TOO_GREAT);
        due("11 10^18 less 10^15, and 1000", x.steps(5, 0, 999, 1000), 999 * TEN_15 + 1000);
        due("11 COST 10^18 and 0", x.steps(5, -1, 1000, 0), TEN_18);
        due("11 COST 10^18 and 1", x.steps(5, -1, 1000, 1), TOO_GREAT);
    }

    /** With the PRICE 1000, 2 times the COST is 10^18, and it goes off. */
    private static void comparedProductsOf10To18() {
        CostFormulas x = Great.halfOf10To15();
        for (int n = 3; n < 6; n++) {
            due("7 DEGREE 2", x.degree(n), 2);
            due("9 FORMULAS", x.shown(n, 2), 1);
        }
        x.price(0, 1000);
        x.price(1, 0);
        due("11 half of 10^18", x.steps(4, -1, 0, 0), TEN_18 / 2);
        due("13 twice that is 10^18", x.compare(4, 6), 1);
        due("13 twice that is 10^18", x.compare(6, 4), 2);
        due("13 alike", x.compare(4, 5), 0);
        x.price(1, 1);
        due("11 half of 10^18, and 1", x.steps(5, -1, 0, 0), TEN_18 / 2 + 1);
        due("13 twice that is more", x.compare(5, 6), SPENT);
        due("13 twice that is more", x.compare(6, 5), SPENT);
        due("13 twice that is more", x.compare(4, 5), SPENT);
        due("13 the other is as it was", x.compare(4, 6), 1);
        due("14 there is no product", x.overtakes(5, 4, 0), 0);
        due("14 there is no product", x.overtakes(4, 5, 0), NONE);
        due("15 nor here", x.grows(5), 0);
        x.price(0, 0);
        due("13 without w", x.compare(5, 4), 1);
    }

    /** With the PRICE 1000 the COSTS are 0, half of 10^18, 10^18: 0 less 10^18 is the sum on the way. */
    private static void comparedSumsOfMinus10To18() {
        CostFormulas x = Great.halfOf10To15();
        x.price(0, 1000);
        due("11 10^18", x.steps(3, -1, 2, 0), TEN_18);
        due("13 a sum of - 10^18", x.compare(3, 6), 1);
        due("13 a sum of - 10^18", x.compare(6, 3), 2);
        due("13 alike", x.compare(3, 3), 0);
    }

    /** COSTS of which one is TOO GREAT, though no FACTOR is. */
    private static void comparedCostsOf10To18() {
        CostFormulas x = Great.times10To15();
        x.price(0, 166);
        due("13 six times it is less", x.compare(4, 7), 1);
        x.price(0, 167);
        due("13 six times it is more", x.compare(4, 7), SPENT);
        x.price(0, 334);
        due("15 no FACTOR is TOO GREAT", x.grows(4), 1);
        due("11 three times it is more", x.steps(4, -1, 3, 0), TOO_GREAT);
        due("13 three times it is more", x.compare(4, 7), SPENT);
        due("13 three times it is more", x.compare(7, 4), SPENT);
        due("13 the others are as they were", x.compare(7, 7), 0);
        x.price(0, 1);
        due("13 b more", x.compare(5, 4), 1);
        due("13 a more", x.compare(4, 6), 2);
        due("13 a more, b more", x.compare(5, 6), 3);
        due("13 0 and 0", x.compare(7, 7), 0);
    }

    /** From the lesser start the answers would be others. */
    private static void comparedFromTheGreaterStart() {
        CostFormulas x = Check.with("for i=1..a{w i;}", "w 2*a;", "for i=1..b{w i;}", "w 2*b;");
        x.judge(0, 0, 0);
        x.judge(1, 2, 0);
        due("13 from 2: 3 3 1 and 4 2", x.compare(0, 1), 3);
        x.judge(1, 3, 0);
        due("13 from 3: 6 4 1 and 6 2", x.compare(0, 1), 1);
        due("13 from 3: 6 4 1 and 6 2", x.compare(1, 0), 2);
        x.judge(0, 8, 0);
        due("13 from 8", x.compare(0, 1), 1);
        x.judge(0, 2, 0);
        x.judge(1, 0, 0);
        due("13 from 2", x.compare(0, 1), 3);
        x.judge(2, 0, 0);
        x.judge(3, 0, 2);
        due("13 from b 2", x.compare(2, 3), 3);
        x.judge(3, 0, 3);
        due("13 from b 3", x.compare(2, 3), 1);
        due("13 from b 3", x.compare(3, 2), 2);
        x.judge(2, 0, 3);
        x.judge(3, 0, 0);
        due("13 from b 3, the other way round", x.compare(2, 3), 1);
        due("13 from b 3, the other way round", x.compare(3, 2), 2);
        x.judge(1, 3, 0);
        due("13 a from 3, b from 3: 6 and 6", x.compare(1, 2), 3);
        x.judge(1, 2, 0);
        due("13 a from 2, b from 3: 4 2 and 6 4 1", x.compare(1, 2), 3);
        comparedWhereOneIsGreaterFromThereOn();
    }

    private static void comparedWhereOneIsGreaterFromThereOn() {
        CostFormulas x = Check.with("w 3*a+3*b;", "w 2*a+2*b+7;");
        x.judge(0, 3, 0);
        x.judge(1, 0, 4);
        due("13 from 3, 4: 21 and 21", x.compare(0, 1), 1);
        due("13 from 3, 4: 21 and 21", x.compare(1, 0), 2);
        x.judge(0, 2, 0);
        due("13 from 2, 4: 18 and 19", x.compare(0, 1), 3);
        x.judge(0, 3, 0);
        x.judge(1, 0, 3);
        due("13 from 3, 3: 18 and 19", x.compare(0, 1), 3);
        x.judge(0, 0, 4);
        x.judge(1, 3, 0);
        due("13 from 3, 4 the other way round", x.compare(0, 1), 1);
    }

    private static void comparedUpToTheGreaterDegree() {
        CostFormulas x = Check.shown("w;", "w 1;", "for i=1..a{for j=1..i{for k=1..j{for l=1..k{w l;}}}}w;", "w b+1;",
            "for i=1..b{for j=1..i{for k=1..j{for l=1..k{w l;}}}}w;");
        due("13 DEGREES 0 and 1", x.compare(0, 1), 0);
        due("13 DEGREES 0 and 0", x.compare(0, 0), 0);
        due("13 DEGREES 0 and 5", x.compare(0, 2), 2);
        due("13 DEGREES 5 and 0", x.compare(2, 0), 1);
        due("13 DEGREES 5 and 1", x.compare(2, 3), 3);
        due("13 DEGREES 5 and 1 of b", x.compare(4, 3), 1);
        due("13 DEGREES 5 and 5", x.compare(2, 4), 3);
        x.price(0, 0);
        due("13 without PRICE", x.compare(2, 4), 0);
    }

    private static void compareRefuses() {
        CostFormulas x = Great.times10To15();
        x.drop();
        x.drop();
        due("4 one more", Check.read(x, SPENDS), 6);
        due("4 one more", Check.read(x, "w;"), 7);
        x.judge(6, 1, 0);
        x.price(0, 1000);
        due("13 SPENT", x.compare(4, 4), SPENT);
        due("13 SPENT and NOT", x.compare(4, 6), NOT);
        due("13 NOT and SPENT", x.compare(6, 4), NOT);
        due("13 NOT SHOWN and SPENT", x.compare(7, 4), NOT);
        due("13 SPENT and NOT SHOWN", x.compare(4, 7), NOT);
        due("13 NOT and NOT", x.compare(7, 6), NOT);
        int[] none = {-1, 8, Integer.MIN_VALUE, Integer.MAX_VALUE};
        for (int program : none) {
            due("13 BAD and NOT", x.compare(program, 7), BAD);
            due("13 NOT and BAD", x.compare(7, program), BAD);
            due("13 BAD and SPENT", x.compare(program, 4), BAD);
            due("13 SPENT and BAD", x.compare(4, program), BAD);
            due("13 BAD and BAD", x.compare(program, program), BAD);
        }
        x.price(0, 1);
        due("13 afterwards", x.compare(4, 4), 0);
    }

    private static void overtakesTo1000() {
        String ninehundred = "w 99+99+99+99+99+99+99+99;w 99+9";
        CostFormulas x = Check.shown("w a;", ninehundred + ";w 99;", ninehundred + ";w 99+1;", "w a+b;");
        due("11 999", x.steps(1, 0, 0, 0), 999);
        due("14 1000 is more than 999", x.overtakes(0, 1, 0), 1000);
        due("14 1000 is not more than 1000", x.overtakes(0, 2, 0), NONE);
        due("14 with b 1", x.overtakes(3, 2, 1), 1000);
        due("14 with b 1000", x.overtakes(3, 2, 1000), 1);
        due("14 with b 1001", x.overtakes(3, 2, 1001), BAD);
        due("14 the other way round", x.overtakes(2, 0, 0), 0);
        due("14 as much is not more", x.overtakes(0, 3, 0), NONE);
    }

    private static void overtakesFromTheGreaterA() {
        CostFormulas x = Check.with("for i=1..a{w i;}", "w 3*a;", "w;");
        x.judge(0, 0, 0);
        x.judge(1, 0, 0);
        x.judge(2, 0, 0);
        due("14 15 and 15, 21 and 18", x.overtakes(0, 1, 0), 6);
        due("14 3 and 1", x.overtakes(1, 0, 0), 1);
        x.judge(0, 4, 0);
        due("14 12 and 10", x.overtakes(1, 0, 0), 4);
        x.judge(1, 5, 0);
        due("14 15 and 15, then less", x.overtakes(1, 0, 0), NONE);
        due("14 15 and 15, 21 and 18", x.overtakes(0, 1, 0), 6);
        due("14 15 and 1", x.overtakes(1, 2, 0), 5);
        x.judge(2, 8, 0);
        due("14 36 and 1", x.overtakes(0, 2, 0), 8);
        due("14 24 and 1", x.overtakes(1, 2, 0), 8);
        due("14 1 and 24", x.overtakes(2, 1, 0), NONE);
        x.judge(0, 7, 0);
        due("14 28 and 21", x.overtakes(0, 1, 0), 7);
    }

    private static void overtakesFromTheGreaterB() {
        CostFormulas x = Check.with("w a+b;", "for i=1..b{w i;}w 3;", "w b;");
        x.judge(0, 0, 2);
        x.judge(1, 0, 5);
        x.judge(2, 0, 0);
        due("14 b 5: 18 and 5", x.overtakes(0, 1, 5), 14);
        due("14 b 5: 18 and 5, the other way round", x.overtakes(1, 0, 5), 0);
        due("14 b 4", x.overtakes(0, 1, 4), BAD);
        due("14 b 4, the other way round", x.overtakes(1, 0, 4), BAD);
        due("14 b 2 of the others", x.overtakes(0, 2, 2), 1);
        due("14 b 1 of the others", x.overtakes(2, 0, 1), BAD);
        due("14 b 0 of one", x.overtakes(2, 2, 0), NONE);
        due("14 b -1 of one", x.overtakes(2, 2, -1), BAD);
        due("14 b 44: 993 and 44", x.overtakes(0, 1, 44), 950);
        due("14 b 45: 1038 and 45", x.overtakes(0, 1, 45), 994);
        due("14 b 46: 1084 and 46", x.overtakes(0, 1, 46), NONE);
        due("14 b 1000", x.overtakes(0, 1, 1000), NONE);
        due("14 b 1000", x.overtakes(1, 0, 1000), 0);
        due("14 b 1001", x.overtakes(1, 0, 1001), BAD);
        x.judge(1, 0, 8);
        due("14 b 5 now", x.overtakes(0, 1, 5), BAD);
        due("14 b 8: 39 and 8", x.overtakes(0, 1, 8), 32);
    }

    private static void overtakesTillANumberIsTooGreat() {
        CostFormulas x = Great.times10To15();
        due("14 10^18 at 1000", x.overtakes(7, 4, 0), NONE);
        due("14 10^18 at 1000", x.overtakes(7, 5, 0), NONE);
        due("14 10^18 and 1 at 1000", x.overtakes(7, 5, 1), SPENT);
        due("14 10^18 and 1000 at 1000", x.overtakes(7, 6, 0), SPENT);
        due("14 more before that", x.overtakes(6, 7, 0), 1);
        due("14 more before that", x.overtakes(6, 4, 0), 1);
        due("14 never more, and TOO GREAT", x.overtakes(4, 6, 0), SPENT);
        due("14 both are 10^18", x.overtakes(4, 5, 0), NONE);
        due("14 more at 0", x.overtakes(5, 4, 1), 0);
        due("14 itself", x.overtakes(6, 6, 0), SPENT);
        x.judge(4, 1, 0);
        due("14 more at the first", x.overtakes(4, 7, 0), 1);
        x.price(0, 1000);
        due("14 10^18 at the first", x.overtakes(4, 7, 0), 1);
        due("14 10^18 at the first, then TOO GREAT", x.overtakes(7, 4, 0), SPENT);
        x.judge(4, 2, 0);
        due("14 a FACTOR of twice 10^18", x.overtakes(4, 7, 0), SPENT);
        x.price(0, 500);
        due("14 a FACTOR of 10^18", x.overtakes(4, 7, 0), 2);
        x.judge(7, 3, 0);
        due("14 TOO GREAT at the first", x.overtakes(4, 7, 0), SPENT);
        x.judge(4, 0, 0);
        x.price(0, 1);
        due("14 as before", x.overtakes(4, 7, 0), 3);
    }

    private static void overtakesRefuses() {
        CostFormulas x = Great.times10To15();
        x.drop();
        x.drop();
        due("4 one more", Check.read(x, SPENDS), 6);
        due("4 one more", Check.read(x, "w;"), 7);
        x.judge(4, 2, 3);
        x.judge(6, 1, 0);
        x.price(0, 1000);
        due("14 SPENT", x.overtakes(4, 4, 3), SPENT);
        due("14 b below the greater B and SPENT", x.overtakes(4, 4, 2), BAD);
        due("14 b above and SPENT", x.overtakes(4, 4, 1001), BAD);
        int[] without = {6, 7};
        for (int program : without) {
            due("14 SPENT and NOT", x.overtakes(4, program, 3), NOT);
            due("14 NOT and SPENT", x.overtakes(program, 4, 3), NOT);
            due("14 b below the one B there is", x.overtakes(4, program, 0), NOT);
            due("14 NOT and NOT", x.overtakes(program, program, 1000), NOT);
            due("14 b -1 and NOT", x.overtakes(program, 4, -1), BAD);
            due("14 b 1001 and NOT", x.overtakes(4, program, 1001), BAD);
        }
        int[] none = {-1, 8, Integer.MIN_VALUE, Integer.MAX_VALUE};
        for (int program : none) {
            due("14 BAD and NOT", x.overtakes(program, 7, 3), BAD);
            due("14 NOT and BAD", x.overtakes(7, program, 3), BAD);
            due("14 SPENT and BAD", x.overtakes(4, program, 3), BAD);
            due("14 BAD and SPENT", x.overtakes(program, 4, 3), BAD);
        }
        for (int far : FAR) {
            due("14 b far", x.overtakes(4, 4, far), BAD);
            due("14 b far and NOT", x.overtakes(7, 7, far), BAD);
        }
        x.price(0, 1);
        due("14 afterwards", x.overtakes(4, 4, 3), NONE);
    }

    private static void growsUpToTheDegree() {
        CostFormulas x = Check.shown("", "w 0;", "w;", "x a;", "y b;",
            "for i=1..a{for j=1..a{for k=1..b{for l=1..b{z b;}}}}w;",
            "for i=1..a{for j=1..2{for k=1..2{for l=1..2{x 2;}}}}");
        int[] want = {NONE, NONE, 0, 1, 1, 5, 1};
        for (int n = 0; n < want.length; n++) {
            due("15 PROGRAM " + n, x.grows(n), want[n]);
        }
        x.price(3, 0);
        due("15 without z", x.grows(5), 0);
        x.price(0, 0);
        due("15 without z and w", x.grows(5), NONE);
        due("15 without w", x.grows(2), NONE);
        x.price(3, 1000);
        due("15 with z at 1000", x.grows(5), 5);
        x.judge(3, 5, 0);
        due("15 from 5 on", x.grows(3), 1);
    }

    private static void growsRefuses() {
        CostFormulas x = Great.times10To15();
        x.drop();
        due("4 one more", Check.read(x, SPENDS), 7);
        x.judge(7, 1, 0);
        due("15 no FORMULAS", x.grows(7), NOT);
        x.judge(7, 0, 0);
        due("15 with FORMULAS", x.grows(7), 2);
        x.drop();
        Check.read(x, "w;");
        due("15 not SHOWN", x.grows(7), NOT);
        x.price(0, 1000);
        due("15 SPENT", x.grows(6), SPENT);
        due("15 NOT, with that PRICE", x.grows(7), NOT);
        int[] none = {-1, 8, Integer.MIN_VALUE, Integer.MAX_VALUE};
        for (int program : none) {
            due("15 BAD", x.grows(program), BAD);
        }
        x.price(0, 1);
        due("15 afterwards", x.grows(6), 1);
    }
}
