/** Promises 1 to 5, 7, 12 and 16: THE TAPE, texts and their FAULTS, DEGREES, PRICES. */
public final class TextsTest {
    private static final Check CHECK = new Check();
    private static final String NINES = "99*a+99*a+99*a+99*a+99*a+99*a+99*a+99*a";

    public static void main(String[] args) {
        newObject();
        feeding();
        cutting();
        readingFaultless();
        faultsOfTokens();
        faultsOfStatements();
        faultsOfLines();
        faultsOfNames();
        faultsOfRuns();
        readingFull();
        dropping();
        degrees();
        prices();
        telling();
        CHECK.end();
    }

    private static void due(String what, long got, long want) {
        CHECK.due(what, got, want);
    }

    private static void newObject() {
        CostFormulas x = new CostFormulas();
        due("1 PROGRAMS", x.told(0), 0);
        due("1 bytes", x.told(1), 0);
        for (int what = 2; what <= 5; what++) {
            due("1 PRICE", x.told(what), 1);
        }
        due("1 no PROGRAM", x.degree(0), -1);
        due("1 nothing to drop", x.drop(), -2);
        CostFormulas y = Check.with("w;");
        y.price(0, 7);
        due("1 objects are apart", x.told(0) + x.told(2), 1);
    }

    private static void feeding() {
        CostFormulas x = new CostFormulas();
        due("2 first", x.feed(0x773B783B, 0x783B793B, 0x793B793B, 0x7A3B2020), 16);
        due("2 its PROGRAM", x.read(), 0);
        for (int kind = 0; kind < 4; kind++) {
            due("2 the highest byte first, KIND " + kind, x.count(0, kind, 0, 0), new int[] {1, 2, 3, 1}[kind]);
        }
        for (int n = 1; n <= 16; n++) {
            due("2 more", x.feed(0x20202020, 0x0A0A0A0A, 0x20202020, 0x20202020), 16 * n);
        }
        due("2 FULL", x.feed(0, 0, 0, 0), -6);
        due("2 FULL changes nothing", x.told(1), 256);
        x.cut(241);
        due("2 one byte too few", x.feed(0, 0, 0, 0), -6);
        due("2 nothing of it is taken", x.told(1), 241);
        x.cut(240);
        due("2 just room", x.feed(0x20202020, 0x20202020, 0x20202020, 0x20202077), 256);
        due("2 the end is after 256 bytes", x.read(), -10 - 256);
    }

    private static void cutting() {
        CostFormulas x = new CostFormulas();
        due("3 of nothing", x.cut(0), 0);
        due("3 beyond nothing", x.cut(1), -1);
        Check.put(x, "w;x;y;z;w;");
        due("3 below 0", x.cut(-1), -1);
        due("3 beyond", x.cut(11), -1);
        due("3 far beyond", x.cut(Integer.MAX_VALUE), -1);
        due("3 far below", x.cut(Integer.MIN_VALUE), -1);
        due("3 refused", x.told(1), 10);
        due("3 all stay", x.cut(10), 0);
        due("3 some go", x.cut(4), 6);
        due("3 the first ones stay", x.read(), 0);
        due("3 w", x.count(0, 0, 0, 0), 1);
        due("3 x", x.count(0, 1, 0, 0), 1);
        due("3 y", x.count(0, 2, 0, 0), 0);
        Check.put(x, "w;x;");
        due("3 all go", x.cut(0), 4);
    }

    private static void readingFaultless() {
        CostFormulas x = new CostFormulas();
        due("4 an empty text", x.read(), 0);
        due("4 blanks", Check.read(x, " \n \n"), 1);
        due("4 a step", Check.read(x, "w;"), 2);
        due("4 THE TAPE is empty then", x.told(1), 0);
        due("4 a for without blanks but one", Check.read(x, "for i=0..9{x;}"), 3);
        due("4 blanks all over", Check.read(x, " for\ni = 00 .. 9 { x 2 * i + 1 - a ; }\n"), 4);
        due("4 a run", Check.read(x, "run 3(a,b);run 00 (1,2) ;"), 5);
        due("4 four fors", Check.read(x, "for m=0..1{for l=m..1{for k=l..1{for j=k..m{w j;}}}}for m=1..1{}"), 6);
        due("4 eight PARTS", Check.read(x, "w " + NINES + ";"), 7);
        due("4 how many", x.told(0), 8);
        due("4 what they are worth", x.count(7, 0, 3, 0), 792 * 3);
        due("4 00 is 0", x.count(5, 1, 0, 0), 10);
    }

    private static void fault(String text, int place) {
        CHECK.fault(text, place);
    }

    private static void faultsOfTokens() {
        fault("W;", 0);
        fault("w\t;", 1);
        fault("\u00e9", 0);
        fault("w;\u0000", 2);
        fault("w;\r\n", 2);
        fault("w 123;", 2);
        fault("w 99999999999999999999;", 2);
        fault("w 12 3;", 5);
        fault("for i=0.9{}", 7);
        fault("for i=0. .9{}", 7);
        fault("for i=0...9{}", 9);
        fault("for i=0..9{}.", 12);
        fault("wx;", 0);
        fault("w12a;", 3);
        fault("fori=0..9{}", 0);
        fault("forr i=0..9{}", 0);
        fault("fo i=0..9{}", 0);
        fault("runs 0(a,b);", 0);
        fault("w #;", 2);
        fault("w a/2;", 3);
    }

    private static void faultsOfStatements() {
        fault("w", 1);
        fault("w  ", 3);
        fault(";", 0);
        fault("}", 0);
        fault("w;}", 2);
        fault("a;", 0);
        fault("i;", 0);
        fault("v;", 0);
        fault("7;", 0);
        fault("w;;", 2);
        fault("w a", 3);
        fault("w a w;", 4);
        fault("for", 3);
        fault("for 1=0..9{}", 4);
        fault("for a=0..9{}", 4);
        fault("for h=0..9{}", 4);
        fault("for n=0..9{}", 4);
        fault("for w=0..9{}", 4);
        fault("for for=0..9{}", 4);
        fault("for i 0..9{}", 6);
        fault("for i=..9{}", 6);
        fault("for i=0,9{}", 7);
        fault("for i=0..{}", 9);
        fault("for i=0..9 w;", 11);
        fault("for i=0..9{", 11);
        fault("for i=0..9{w;", 13);
        fault("for i=0..9{w;}}", 14);
        fault("for i=0..1{for j=0..1{for k=0..1{for l=0..1{for m=0..1{}}}}}", 44);
        fault("for i=0..1{for i=0..1{}}", 15);
        fault("for i=0..1{for j=0..1{for i=0..1{}}}", 26);
    }

    private static void faultsOfLines() {
        fault("w -1;", 2);
        fault("w +1;", 2);
        fault("w a+;", 4);
        fault("w a--1;", 4);
        fault("w 2*;", 4);
        fault("w 2*3;", 4);
        fault("w a*2;", 3);
        fault("w 2*a*b;", 5);
        fault("w 2a;", 3);
        fault("w (a);", 2);
        fault("w " + NINES + "+1;", 41);
        fault("w 1-1-1-1-1-1-1-1 -1;", 18);
        fault("for i=0.." + NINES + "-a{}", 48);
        fault("run 1(" + NINES + ",1+1+1+1+1+1+1+1+1);", 61);
    }

    private static void faultsOfNames() {
        fault("w i;", 2);
        fault("w c;", 2);
        fault("w 2*w;", 4);
        fault("w ab;", 2);
        fault("for i=i..9{}", 6);
        fault("for i=0..i{}", 9);
        fault("for i=0..1{w j;}", 13);
        fault("for i=0..1{}w i;", 14);
        fault("for i=0..1{for j=0..i{}w j;}", 25);
        fault("run 1(a,k);", 8);
    }

    private static void faultsOfRuns() {
        fault("run 2(a,b);", 4);
        fault("run 99(a,b);", 4);
        fault("run 001(a,b);", 4);
        fault("run a(a,b);", 4);
        fault("run (a,b);", 4);
        fault("run 1 a,b);", 6);
        fault("run 1(,b);", 6);
        fault("run 1(a;b);", 7);
        fault("run 1(a);", 7);
        fault("run 1(a,);", 8);
        fault("run 1(a,b;", 9);
        fault("run 1(a,b)", 10);
        fault("run 1(a,b,a);", 9);
        CostFormulas x = new CostFormulas();
        due("4 not itself", Check.read(x, "run 0(a,b);"), -14);
        due("4 it was read", Check.read(x, "w;"), 0);
        due("4 now it is there", Check.read(x, "run 0(a,b);"), 1);
        x.drop();
        x.drop();
        due("4 it went", Check.read(x, "run 0(a,b);"), -14);
    }

    private static void readingFull() {
        CostFormulas x = new CostFormulas();
        due("4 forty", Check.read(x, "w;".repeat(40)), 0);
        due("4 forty count", x.count(0, 0, 0, 0), 40);
        due("4 forty and one", Check.read(x, "w;".repeat(41)), -6);
        due("4 THE TAPE is empty after FULL", x.told(1), 0);
        due("4 128 of them", Check.read(x, "w;".repeat(128)), -6);
        due("4 a for is one, and what is in it", Check.read(x, "for i=0..1{" + "w;".repeat(39) + "}"), 1);
        due("4 one more", Check.read(x, "for i=0..1{" + "w;".repeat(40) + "}"), -6);
        due("4 a for that is the 41st", Check.read(x, "w;".repeat(40) + "for i=0..1{w i;run 0(a,i);}"), -6);
        due("4 a FAULT first", Check.read(x, "w;".repeat(50) + "}"), -10 - 100);
        for (int n = 2; n < 8; n++) {
            due("4 more", Check.read(x, "w " + n + ";"), n);
        }
        due("4 eight are all", Check.read(x, "x;"), -6);
        due("4 THE TAPE is empty after that", x.told(1), 0);
        due("4 a FAULT of the ninth", Check.read(x, "x;x"), -13);
        due("4 a ninth that runs the eighth", Check.read(x, "run 7(a,b);"), -6);
        due("4 a ninth that runs the ninth", Check.read(x, "run 8(a,b);"), -14);
        due("4 those that are there stay", x.count(7, 0, 0, 0), 7);
        due("4 eight", x.told(0), 8);
        x.drop();
        due("4 room again", Check.read(x, "x;"), 7);
        due("4 the new one", x.count(7, 1, 0, 0), 1);
    }

    private static void dropping() {
        CostFormulas x = Check.with("w;", "w;w;");
        x.judge(1, 3, 4);
        due("5 one goes", x.drop(), 1);
        due("5 it is gone", x.degree(1), -1);
        due("5 the first stays", x.count(0, 0, 0, 0), 1);
        due("5 a new one", Check.read(x, "w;w;w;"), 1);
        due("5 of which nothing is known", x.shown(1, 0), -2);
        due("5 of which nothing is known", x.shown(1, 2), 0);
        Check.put(x, "w;");
        due("5 THE TAPE stays", x.drop() + 100 * x.told(1), 201);
        due("5 the last", x.drop(), 0);
        due("5 NONE", x.drop(), -2);
    }

    private static void degreeDue(String text, int want) {
        CostFormulas x = Check.with("w;", "for i=0..a{for j=0..i{x j;}}", text);
        due("7 DEGREE of '" + text + "'", x.degree(2), want);
    }

    private static void degrees() {
        degreeDue("", 0);
        degreeDue("w;", 0);
        degreeDue("w 5;", 1);
        degreeDue("w;w a;w;", 1);
        degreeDue("for i=0..9{}", 1);
        degreeDue("for i=0..9{w;}", 1);
        degreeDue("for i=0..9{w 0;}", 2);
        degreeDue("for i=0..9{for j=0..9{}w;}", 2);
        degreeDue("w 1;for i=1..2{for j=1..2{for k=1..2{for l=1..2{w l;}}}}x;", 5);
        degreeDue("run 0(a,b);", 0);
        degreeDue("run 1(a,b);", 3);
        degreeDue("for i=0..9{run 0(a,b);}", 1);
        degreeDue("for i=0..9{run 1(a,b);}x 1;", 4);
        degreeDue("for i=1..2{for j=1..2{for k=1..2{for l=1..2{run 1(a,b);}}}}", 7);
        CostFormulas x = Check.with("w;");
        due("7 BAD", x.degree(1), -1);
        due("7 BAD below 0", x.degree(-1), -1);
        due("7 BAD", x.degree(Integer.MAX_VALUE), -1);
        String four = "for i=1..2{for j=1..2{for k=1..2{for l=1..2{run %d(a,b);}}}}";
        for (int n = 1; n < 8; n++) {
            Check.read(x, four.replace("%d", String.valueOf(n - 1)));
        }
        due("7 the greatest", x.degree(7), 28);
    }

    private static void prices() {
        CostFormulas x = new CostFormulas();
        due("12 first", x.price(0, 1000), 1);
        due("12 then", x.price(0, 0), 1000);
        due("12 then", x.price(0, 5), 0);
        due("12 the last KIND", x.price(3, 9), 1);
        due("12 KIND 4", x.price(4, 1), -1);
        due("12 KIND -1", x.price(-1, 1), -1);
        due("12 PRICE -1", x.price(0, -1), -1);
        due("12 PRICE 1001", x.price(0, 1001), -1);
        due("12 what is BAD changes nothing", x.told(2), 5);
    }

    private static void telling() {
        CostFormulas x = Check.with("w;", "x;", "y;");
        Check.put(x, "w;w;w;w");
        for (int kind = 0; kind < 4; kind++) {
            x.price(kind, 10 + kind);
        }
        due("16 PROGRAMS", x.told(0), 3);
        due("16 bytes", x.told(1), 7);
        for (int kind = 0; kind < 4; kind++) {
            due("16 PRICE", x.told(2 + kind), 10 + kind);
        }
        due("16 BAD", x.told(6), -1);
        due("16 BAD", x.told(-1), -1);
        due("16 BAD", x.told(Integer.MIN_VALUE), -1);
        due("16 BAD", x.told(Integer.MAX_VALUE), -1);
    }
}
