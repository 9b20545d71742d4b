import java.util.Arrays;
import java.util.List;

/** The boundaries of texts, a sentence of the document at a time; promises 4, 5 and 7. */
public final class TextBoundsTest {
    private static final Check CHECK = new Check();
    private static final int BAD = -1, NONE = -2, FULL = -6;
    private static final String LETTERS = "abcdefghijklmnopqrstuvwxyz";
    private static final String EIGHT = "1+a-b+2*a-3*b+4-5+a";

    public static void main(String[] args) {
        whatCanComeAndWhatCannot();
        aTextThatEndsTooSoon();
        aTokenThatIsNone();
        theFirstOfSeveralFaults();
        stepsAreFourLetters();
        variablesAreFiveLetters();
        namesAreInputsOrVariablesAround();
        aForsLinesAreNotInIt();
        aVariableEndsWithItsFor();
        aLineHas8Parts();
        aVariableIsAroundOnce();
        forsAreWithin3Others();
        aRunsNumberIsAProgramThatThereIs();
        readEmptiesTheTape();
        eightProgramsAreAll();
        fortyStatementsAreAll();
        aFaultGoesBeforeFull();
        dropTakesTheLast();
        nothingStaysOfWhatWasDropped();
        degreesOfStatements();
        degreesOfFors();
        degreesOfRuns();
        degreeRefuses();
        CHECK.end();
    }

    private static void due(String what, long got, long want) {
        CHECK.due(what, got, want);
    }

    private static final String[] ALL_TOKENS = {"w", "x", "y", "z", "for", "run", "i", "j", "a", "b", "q", "wx", "0",
        "1", "2", "100", "..", ".", "=", "+", "-", "*", ";", "(", ")", ",", "{", "}", "#"};
    private static final String STATEMENTS = "w x y z for run";
    private static final String PARTS = "0 1 2 a b";

    /** Which TOKENS can stand behind a beginning; the one that can't is the FAULT, another one is not. */
    private static void canCome(String beginning, String tokens) {
        List<String> fitting = Arrays.asList(tokens.split(" "));
        for (String token : ALL_TOKENS) {
            String text = beginning + " " + token;
            int place = beginning.length() + 1;
            if (fitting.contains(token)) {
                CostFormulas x = Check.with("w;", "w a;");
                int answer = Check.read(x, text);
                boolean whole = answer == 2;
                due("4 '" + text + "' is whole, or ends too soon", whole ? 0 : answer, whole ? 0 : -10 - text.length());
            } else {
                CHECK.fault(text, place);
            }
        }
    }

    private static void whatCanComeAndWhatCannot() {
        canCome("", STATEMENTS);
        canCome("w", "; " + PARTS);
        canCome("w 1", "; + - *");
        canCome("w 1*", "a b");
        canCome("w 1*a", "; + -");
        canCome("w b", "; + -");
        canCome("w b+", PARTS);
        canCome("w b-", PARTS);
        canCome("w b-1", "; + - *");
        canCome("w b;", STATEMENTS);
        canCome("for", "i j");
        canCome("for i", "=");
        canCome("for i=", PARTS);
        canCome("for i=1", ".. + - *");
        canCome("for i=a", ".. + -");
        canCome("for i=1..", PARTS);
        canCome("for i=1..2", "{ + - *");
        canCome("for i=1..b", "{ + -");
        canCome("for i=1..b{", "} " + STATEMENTS);
        canCome("for i=1..b{x", "; i " + PARTS);
        canCome("for i=1..b{x 2*", "a b i");
        canCome("for i=1..b{x;", "} " + STATEMENTS);
        canCome("for i=1..b{for", "j");
        canCome("for i=1..b{for j=", "i " + PARTS);
        canCome("for i=1..b{for j=1..2{y", "; i j " + PARTS);
        canCome("for i=1..b{for j=1..2{}", "} " + STATEMENTS);
        canCome("for i=1..b{}", STATEMENTS);
        canCome("run", "0 1");
        canCome("run 1", "(");
        canCome("run 1(", PARTS);
        canCome("run 1(1", ", + - *");
        canCome("run 1(a", ", + -");
        canCome("run 1(a,", PARTS);
        canCome("run 1(a,1", ") + - *");
        canCome("run 1(a,b", ") + -");
        canCome("run 1(a,b)", ";");
        canCome("run 1(a,b);", STATEMENTS);
    }

    private static final String[] WHOLE = {"for", " i", "=", "0", "..", "2", "*", "a", "{", "w", " 1", "+", "i", "-",
        "b", ";", "run", " 1", "(", "a", ",", "i", ")", ";", "}"};

    private static void aTextThatEndsTooSoon() {
        StringBuilder text = new StringBuilder();
        for (String token : WHOLE) {
            if (text.length() > 0) {
                CHECK.fault(text.toString(), text.length());
                CHECK.fault(text + " \n ", text.length() + 3);
            }
            text.append(token);
        }
        CHECK.taken(text.toString());
    }

    private static void aTokenThatIsNone() {
        StringBuilder text = new StringBuilder();
        for (String token : WHOLE) {
            CHECK.fault(text + "#" + token, text.length());
            CHECK.fault(text + "\n 100", text.length() + 2);
            text.append(token);
        }
        CHECK.fault(text + "#", text.length());
        CHECK.fault(text + "}", text.length());
    }

    private static void theFirstOfSeveralFaults() {
        CHECK.fault("w c;#", 2);
        CHECK.fault("w;;100", 2);
        CHECK.fault("run 9(c,#", 4);
        CHECK.fault("for a=i..#", 4);
        CHECK.fault("for i=i..j{", 6);
        CHECK.fault("w " + EIGHT + "+c;}", 2 + EIGHT.length());
    }

    private static void stepsAreFourLetters() {
        for (char letter : LETTERS.toCharArray()) {
            int kind = "wxyz".indexOf(letter);
            if (kind < 0) {
                CHECK.fault(letter + ";", 0);
                CHECK.fault(letter + " 5;", 0);
            } else {
                CostFormulas x = Check.with(letter + ";", letter + " 5;");
                for (int k = 0; k < 4; k++) {
                    due("6 " + letter + " is KIND " + kind, x.count(0, k, 0, 0), k == kind ? 1 : 0);
                    due("6 " + letter + " 5 is KIND " + kind, x.count(1, k, 0, 0), k == kind ? 5 : 0);
                }
            }
        }
    }

    private static void variablesAreFiveLetters() {
        for (char letter : LETTERS.toCharArray()) {
            if ("ijklm".indexOf(letter) < 0) {
                CHECK.fault("for " + letter + "=1..2{}", 4);
            } else {
                CHECK.taken("for " + letter + "=1..2{w " + letter + ";}");
            }
        }
    }

    private static void namesAreInputsOrVariablesAround() {
        for (char letter : LETTERS.toCharArray()) {
            boolean input = letter == 'a' || letter == 'b';
            nameDue("w ", letter, ";", input);
            nameDue("w 1-2*", letter, ";", input);
            nameDue("run 1(", letter, ",1);", input);
            nameDue("run 1(1,", letter, ");", input);
            nameDue("for i=1..2{for m=1..2{w ", letter, ";}}", input || letter == 'i' || letter == 'm');
            nameDue("for i=1..2{for m=1..2{run 1(1,2*", letter, ");}}", input || letter == 'i' || letter == 'm');
        }
    }

    private static void nameDue(String ahead, char name, String behind, boolean fits) {
        if (fits) {
            CHECK.taken(ahead + name + behind);
        } else {
            CHECK.fault(ahead + name + behind, ahead.length());
        }
    }

    private static void aForsLinesAreNotInIt() {
        for (char own : "ijklm".toCharArray()) {
            CHECK.fault("for " + own + "=" + own + "..2{}", 6);
            CHECK.fault("for " + own + "=1.." + own + "{}", 9);
            CHECK.fault("for " + own + "=1..a+2*" + own + "{}", 13);
        }
        CHECK.taken("for i=1..2{for j=i..2*i{}}");
        CHECK.fault("for i=1..2{for j=j..2*i{}}", 17);
        CHECK.fault("for i=1..2{for j=i..2*j{}}", 22);
    }

    private static void aVariableEndsWithItsFor() {
        CHECK.taken("for i=1..2{w i;}");
        CHECK.fault("for i=1..2{}w i;", 14);
        CHECK.fault("for i=1..2{for j=1..2{w j;}w j;}", 29);
        CHECK.fault("for i=1..2{}for j=i..2{}", 18);
        CHECK.fault("for i=1..2{for j=1..2{}for k=j..2{}}", 29);
        CHECK.taken("for i=1..2{for j=1..2{}for k=i..2{w k;}}");
        CHECK.fault("for i=1..2{}run 1(i,1);", 18);
    }

    /** In each of the five LINES that there are: 8 PARTS, and a 9th with either sign. */
    private static void aLineHas8Parts() {
        String[] ahead = {"w ", "for i=", "for i=1..", "run 1(", "run 1(1,", "for i=1..2{w "};
        String[] behind = {";", "..2{}", "{}", ",1);", ");", ";}"};
        for (int n = 0; n < ahead.length; n++) {
            CHECK.taken(ahead[n] + EIGHT + behind[n]);
            CHECK.taken(ahead[n] + "0" + "+99*b".repeat(7) + behind[n]);
            CHECK.taken(ahead[n] + "a" + "-a".repeat(7) + behind[n]);
            CHECK.fault(ahead[n] + EIGHT + "+1" + behind[n], ahead[n].length() + EIGHT.length());
            CHECK.fault(ahead[n] + EIGHT + "-a" + behind[n], ahead[n].length() + EIGHT.length());
            CHECK.fault(ahead[n] + EIGHT + " \n+2*b" + behind[n], ahead[n].length() + EIGHT.length() + 2);
        }
        CHECK.taken("run 1(" + EIGHT + "," + EIGHT + ");");
        CHECK.taken("for i=" + EIGHT + ".." + EIGHT + "{w " + EIGHT + ";}");
        due("6 the 8th PART counts", Check.with("w 1+1+1+1+1+1+1+90;").count(0, 0, 0, 0), 97);
        due("6 the 8th PART counts", Check.with("w 0-a-a-a-a-a-a+9*a;").count(0, 0, 5, 0), 15);
    }

    private static void aVariableIsAroundOnce() {
        CHECK.taken("for i=1..2{for j=1..2{}}");
        CHECK.fault("for i=1..2{for i=1..2{}}", 15);
        CHECK.taken("for i=1..2{}for i=1..2{}");
        CHECK.taken("for i=1..2{for j=1..2{}for j=1..2{}}for j=1..2{}");
        CHECK.fault("for i=1..2{for j=1..2{}for i=1..2{}}", 27);
        String three = "for i=1..2{for j=1..2{for k=1..2{";
        CHECK.taken(three + "for l=1..2{}for m=1..2{}}}}");
        CHECK.fault(three + "for i=1..2{}}}}", 37);
        CHECK.fault(three + "for j=1..2{}}}}", 37);
        CHECK.fault(three + "for k=1..2{}}}}", 37);
        CHECK.fault(three + "for l=1..2{}for k=1..2{}}}}", 49);
    }

    /** The fifth for is refused itself, ahead of all that is wrong behind it. */
    private static void forsAreWithin3Others() {
        String four = "for i=1..2{for j=1..2{for k=1..2{for l=1..2{";
        CHECK.taken(four + "}}}}");
        CHECK.taken(four + "w l;run 1(l,k);}for m=1..2{}for l=1..2{}}for k=1..2{for l=1..2{}}}}");
        CHECK.fault(four + "for m=1..2{}}}}}", 44);
        CHECK.fault(four + "w;for m=1..2{}}}}}", 46);
        CHECK.fault(four + "for i=1..2{}}}}}", 44);
        CHECK.fault(four + "for #", 44);
        CHECK.fault(four + "for", 44);
        CHECK.fault(four + "}for m=1..2{for l=1..2{}}}}}", 56);
    }

    private static void aRunsNumberIsAProgramThatThereIs() {
        CostFormulas x = new CostFormulas();
        for (int there = 0; there < 8; there++) {
            due("4 run " + there + " of " + there, Check.read(x, "run " + there + "(a,b);"), -14);
            due("4 run 0" + there + " of " + there, Check.read(x, "run 0" + there + "(a,b);"), -14);
            due("4 run 99 of " + there, Check.read(x, "w;run 99(a,b);"), -16);
            due("4 none was read", x.told(0), there);
            String text = there == 0 ? "w;" : "run " + (there - 1) + "(a,b);run 0" + (there - 1) + "(a,b);";
            due("4 run " + (there - 1) + " of " + there, Check.read(x, text), there);
        }
        due("6 each runs the one before it twice", x.count(7, 0, 0, 0), 128);
        for (int there = 8; there > 1; there--) {
            due("5 drop", x.drop(), there - 1);
            due("4 run of what went", Check.read(x, "run " + (there - 1) + "(a,b);"), -14);
        }
        due("6 the first stays", x.count(0, 0, 0, 0), 1);
    }

    private static void readEmptiesTheTape() {
        CostFormulas x = new CostFormulas();
        Check.put(x, "w;");
        due("4 a PROGRAM", x.read(), 0);
        due("4 empty then", x.told(1), 0);
        due("4 an empty text then", x.read(), 1);
        due("4 which has no steps", x.count(1, 0, 0, 0), 0);
        Check.put(x, "w");
        due("4 a FAULT", x.read(), -11);
        due("4 empty then", x.told(1), 0);
        Check.put(x, "w;".repeat(41));
        due("4 FULL", x.read(), FULL);
        due("4 empty then", x.told(1), 0);
        due("4 what is fed then stands at 0", Check.read(x, "#"), -10);
        due("4 and is read alone", Check.read(x, "x;"), 2);
        due("6 w", x.count(2, 0, 0, 0), 0);
        due("6 x", x.count(2, 1, 0, 0), 1);
    }

    private static void eightProgramsAreAll() {
        CostFormulas x = new CostFormulas();
        for (int n = 0; n < 8; n++) {
            due("4 number", Check.read(x, "w " + (10 + n) + ";"), n);
            due("4 how many", x.told(0), n + 1);
        }
        due("8 the eighth", x.judge(7, 3, 4), 1);
        String[] ninth = {"w 5;", "", "w;".repeat(40), "w;".repeat(41), "for i=1..2{run 7(i,i);}"};
        for (String text : ninth) {
            due("4 a ninth", Check.read(x, text), FULL);
            due("4 eight stay", x.told(0), 8);
            due("4 THE TAPE is empty", x.told(1), 0);
            due("4 there is no ninth", x.degree(8), BAD);
            due("4 nor can it be run", Check.read(x, "run 8(a,b);"), -14);
        }
        for (int n = 0; n < 8; n++) {
            due("6 of the eight", x.count(n, 0, 0, 0), 10 + n);
        }
        due("9 A of the eighth", x.shown(7, 0), 3);
        due("9 B of the eighth", x.shown(7, 1), 4);
        due("10 of the eighth", x.factor(7, 0, 0, 0), 17);
        due("5 drop", x.drop(), 7);
        due("4 room for one", Check.read(x, "w 5;"), 7);
        due("6 that one", x.count(7, 0, 0, 0), 5);
    }

    private static void fullDue(String text, int statements) {
        CostFormulas x = Check.with("w 3;");
        boolean fits = statements <= 40;
        due("4 " + statements + " STATEMENTS", Check.read(x, text), fits ? 1 : FULL);
        due("4 PROGRAMS then", x.told(0), fits ? 2 : 1);
        due("4 THE TAPE then", x.told(1), 0);
        due("4 the next", Check.read(x, "for i=1..a{x i;}"), fits ? 2 : 1);
        due("6 the next", x.count(fits ? 2 : 1, 1, 4, 0), 10);
        due("6 the first", x.count(0, 0, 0, 0), 3);
    }

    private static void fortyStatementsAreAll() {
        for (int n = 38; n <= 43; n++) {
            fullDue("w;".repeat(n), n);
            fullDue("x 5;".repeat(n), n);
            fullDue("for i=1..2{" + "w;".repeat(n - 1) + "}", n);
            fullDue("w;".repeat(n - 1) + "for i=1..2{}", n);
            fullDue("w;".repeat(n - 2) + "for i=1..2{w i;}", n);
            fullDue("w;".repeat(n - 4) + "for i=1..2{w i;run 0(i,a);}run 0(1,2);", n);
            fullDue("for i=1..2{for j=1..2{for k=1..2{for l=1..2{w;}}}}" + "w;".repeat(n - 5), n);
        }
        fullDue("w;".repeat(128), 128);
        due("6 the fortieth", Check.with("w;".repeat(39) + "x 7;").count(0, 1, 0, 0), 7);
        CostFormulas x = Check.with("w;".repeat(39) + "for i=1..9{}");
        due("6 without steps", x.count(0, 0, 0, 0), 39);
        due("7 the fortieth", x.degree(0), 1);
        CostFormulas y = Check.with("w;".repeat(35) + "for i=1..9{for j=1..i{w;}x;}z;");
        due("6 all but the last are w", y.count(0, 0, 0, 0), 35 + 45);
        due("6 x", y.count(0, 1, 0, 0), 9);
        due("6 the last", y.count(0, 3, 0, 0), 1);
    }

    private static void aFaultGoesBeforeFull() {
        CostFormulas x = new CostFormulas();
        due("4 41 and a FAULT", Check.read(x, "w;".repeat(41) + "}"), -10 - 82);
        due("4 the end of 41", Check.read(x, "for i=1..2{" + "w;".repeat(41)), -10 - 93);
        due("4 a run of none behind 41", Check.read(x, "w;".repeat(41) + "run 0(a,b);"), -10 - 86);
        due("4 a NAME behind 41", Check.read(x, "w;".repeat(41) + "for i=1..2{w i;w j;}"), -10 - 97 - 2);
        int ninth = 84 + EIGHT.length();
        due("4 a ninth PART behind 41", Check.read(x, "w;".repeat(41) + "w " + EIGHT + "+1;"), -10 - ninth);
        for (int n = 0; n < 8; n++) {
            due("4 PROGRAM", Check.read(x, "w;"), n);
        }
        due("4 a FAULT of a ninth", Check.read(x, "w"), -11);
        due("4 a FAULT of a ninth", Check.read(x, "#"), -10);
        due("4 a ninth", Check.read(x, "w;"), FULL);
        due("4 a FAULT of a ninth of 41", Check.read(x, "w;".repeat(41) + "#"), -10 - 82);
    }

    private static void dropTakesTheLast() {
        CostFormulas x = Check.with("w;", "x;x;", "y;y;y;");
        Check.put(x, "z;");
        due("5 the third", x.drop(), 2);
        due("5 it is gone", x.count(2, 2, 0, 0), BAD);
        due("5 the second is there", x.count(1, 1, 0, 0), 2);
        due("5 the second", x.drop(), 1);
        due("5 the first", x.drop(), 0);
        due("5 none is left", x.drop(), NONE);
        due("5 none is left", x.drop(), NONE);
        due("5 told", x.told(0), 0);
        due("5 THE TAPE stays", x.told(1), 2);
        due("5 and is read", x.read(), 0);
        due("5 z", x.count(0, 3, 0, 0), 1);
        due("5 drop", x.drop(), 0);
    }

    private static void nothingStaysOfWhatWasDropped() {
        CostFormulas x = Check.with("for i=1..a{for j=1..99*b+9{w i;x 9;}}y 9*a+5;");
        due("8 SHOWN", x.judge(0, 2, 3), 1);
        due("15 grows", x.grows(0), 3);
        due("5 drop", x.drop(), 0);
        due("4 a lesser one", Check.read(x, "for i=1..b{z;}w;"), 0);
        due("7 DEGREE", x.degree(0), 1);
        due("9 A", x.shown(0, 0), NONE);
        due("9 B", x.shown(0, 1), NONE);
        due("9 FORMULAS", x.shown(0, 2), 0);
        due("15 NOT", x.grows(0), -3);
        due("6 z", x.count(0, 3, 5, 4), 4);
        due("6 w", x.count(0, 0, 5, 4), 1);
        due("6 y", x.count(0, 2, 5, 4), 0);
        due("8 from the same start", x.judge(0, 2, 3), 1);
        due("10 w", x.factor(0, 0, 0, 0), 1);
        due("10 w", x.factor(0, 0, 2, 1), 0);
        due("10 z", x.factor(0, 3, 0, 1), 1);
        due("15 grows", x.grows(0), 1);
        due("11 COST", x.steps(0, -1, 9, 9), 10);
        x.drop();
        due("4 nothing", x.read(), 0);
        due("7 DEGREE of nothing", x.degree(0), 0);
        due("8 SHOWN", x.judge(0, 2, 3), 1);
        due("15 grows not", x.grows(0), NONE);
    }

    private static void degreeDue(String text, int want) {
        CostFormulas x = Check.with("", "w;", "w a;", "for i=1..2{for j=1..2{}}", text);
        due("7 DEGREE of '" + text + "'", x.degree(4), want);
    }

    private static void degreesOfStatements() {
        degreeDue("", 0);
        degreeDue(" \n", 0);
        degreeDue("w;", 0);
        degreeDue("w 0;", 1);
        degreeDue("z a-a;", 1);
        degreeDue("w;w;w;w 1;", 1);
        degreeDue("w 1;w;", 1);
    }

    private static void degreesOfFors() {
        degreeDue("for i=1..2{}", 1);
        degreeDue("for i=2..1{}", 1);
        degreeDue("for i=1..2{w;}", 1);
        degreeDue("for i=1..2{w 0;}", 2);
        degreeDue("for i=1..2{for j=1..2{}}", 2);
        degreeDue("for i=1..2{for j=1..2{for k=1..2{}}w i;}", 3);
        degreeDue("for i=1..2{for j=1..2{for k=1..2{for l=1..2{}}}}", 4);
        degreeDue("for i=1..2{for j=1..2{for k=1..2{for l=1..2{w;}}}}", 4);
        degreeDue("for i=1..2{for j=1..2{for k=1..2{for l=1..2{w 1;}}}}", 5);
        degreeDue("for i=1..2{w 1;for j=1..2{w;}w;}x 1;for i=1..2{}", 2);
    }

    private static void degreesOfRuns() {
        degreeDue("run 0(a,b);", 0);
        degreeDue("run 1(99*a,99*b);", 0);
        degreeDue("run 2(0,0);", 1);
        degreeDue("run 3(a,b);", 2);
        degreeDue("run 3(a,b);run 2(a,b);w 1;", 2);
        degreeDue("for i=1..2{run 0(a,b);}", 1);
        degreeDue("for i=1..2{run 2(a,b);}", 2);
        degreeDue("for i=1..2{for j=1..2{for k=1..2{for l=1..2{run 3(a,b);}}}}", 6);
    }

    private static void degreeRefuses() {
        CostFormulas x = Check.with("w;", "w 1;");
        int[] wrong = {-1, 2, 8, Integer.MAX_VALUE, Integer.MIN_VALUE};
        for (int program : wrong) {
            due("7 BAD " + program, x.degree(program), BAD);
        }
        due("7 the first", x.degree(0), 0);
        due("7 the last", x.degree(1), 1);
        x.drop();
        due("7 it went", x.degree(1), BAD);
    }
}
