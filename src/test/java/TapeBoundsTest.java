/** The boundaries of THE TAPE and of its TOKENS, a sentence of the document at a time; promises 1 to 3. */
public final class TapeBoundsTest {
    private static final Check CHECK = new Check();
    private static final int FOUR_BLANKS = 0x20202020;
    private static final int BAD = -1, NONE = -2, FULL = -6;
    private static final long TOO_GREAT = -9000000000000000000L;

    public static void main(String[] args) {
        anObjectIsUsedFor512Calls();
        aNewObjectHasAnEmptyTape();
        aNewObjectHasNoPrograms();
        aNewObjectHasPrices1();
        theTapeHasAtMost256Bytes();
        aFeedThatIsFullTakesNothing();
        theTapeIsFedAnewAfterACut();
        theHighestByteComesFirst();
        cutKeepsTheFirstBytes();
        cutRefuses();
        placesAreCountedFrom0();
        theEndIsHowManyBytesThereAre();
        bytes32And10AreBlanks();
        wordsAreAsLongAsMayBe();
        wordsAreOfLettersAlone();
        onlyTwoWordsAreLongerThanALetter();
        numbersHave1Or2Digits();
        numbersAreOfDigitsAlone();
        dotsAreTwo();
        CHECK.end();
    }

    private static void due(String what, long got, long want) {
        CHECK.due(what, got, want);
    }

    private static void anObjectIsUsedFor512Calls() {
        CostFormulas x = new CostFormulas();
        for (int call = 1; call <= 508; call++) {
            due("call " + call, x.told(2), 1);
        }
        due("call 509", x.feed(0x77203939, 0x3B202020, FOUR_BLANKS, FOUR_BLANKS), 16);
        due("call 510", x.read(), 0);
        due("call 511", x.judge(0, 8, 8), 1);
        due("call 512", x.steps(0, 0, 1000, 1000), 99);
    }

    private static void aNewObjectHasAnEmptyTape() {
        CostFormulas x = new CostFormulas();
        due("1 bytes", x.told(1), 0);
        due("1 no byte to keep", x.cut(1), BAD);
        due("1 nothing goes", x.cut(0), 0);
        due("1 an empty text is a PROGRAM", x.read(), 0);
        due("1 without steps", x.count(0, 0, 1000, 1000), 0);
        due("1 one PROGRAM", x.told(0), 1);
    }

    private static void aNewObjectHasNoPrograms() {
        CostFormulas x = new CostFormulas();
        due("1 drop", x.drop(), NONE);
        due("1 count", x.count(0, 0, 0, 0), BAD);
        due("1 degree", x.degree(0), BAD);
        due("1 judge", x.judge(0, 0, 0), BAD);
        due("1 shown", x.shown(0, 0), BAD);
        due("1 shown FORMULAS", x.shown(0, 2), BAD);
        due("1 factor", x.factor(0, 0, 0, 0), TOO_GREAT);
        due("1 steps", x.steps(0, 0, 0, 0), TOO_GREAT);
        due("1 compare", x.compare(0, 0), BAD);
        due("1 overtakes", x.overtakes(0, 0, 0), BAD);
        due("1 grows", x.grows(0), BAD);
        due("1 a run of none", Check.read(x, "run 0(a,b);"), -14);
        due("1 still none", x.told(0), 0);
        due("1 the first", Check.read(x, "w;"), 0);
    }

    private static void aNewObjectHasPrices1() {
        for (int kind = 0; kind < 4; kind++) {
            due("1 PRICE of " + kind, new CostFormulas().price(kind, 7), 1);
            due("1 told of " + kind, new CostFormulas().told(2 + kind), 1);
            due("1 COST", Check.shown("wxyz".charAt(kind) + " 9;").steps(0, -1, 0, 0), 9);
        }
    }

    private static void feedBlanks(CostFormulas x, int sixteens) {
        for (int n = 0; n < sixteens; n++) {
            x.feed(FOUR_BLANKS, FOUR_BLANKS, FOUR_BLANKS, FOUR_BLANKS);
        }
    }

    private static void theTapeHasAtMost256Bytes() {
        CostFormulas x = new CostFormulas();
        for (int n = 1; n <= 15; n++) {
            due("2 bytes", x.feed(FOUR_BLANKS, FOUR_BLANKS, FOUR_BLANKS, FOUR_BLANKS), 16 * n);
        }
        due("2 the last sixteen", x.feed(FOUR_BLANKS, FOUR_BLANKS, FOUR_BLANKS, 0x2020783B), 256);
        due("2 sixteen more", x.feed(0x23232323, 0x23232323, 0x23232323, 0x23232323), FULL);
        due("2 told", x.told(1), 256);
        due("2 the 256 bytes are as they were", x.read(), 0);
        due("2 x stood at the end", x.count(0, 1, 0, 0), 1);
        due("2 room again", x.feed(FOUR_BLANKS, FOUR_BLANKS, FOUR_BLANKS, FOUR_BLANKS), 16);
        feedBlanks(x, 14);
        due("2 room to the end", x.feed(FOUR_BLANKS, FOUR_BLANKS, FOUR_BLANKS, FOUR_BLANKS), 256);
    }

    private static void aFeedThatIsFullTakesNothing() {
        for (int length = 240; length <= 256; length++) {
            CostFormulas x = new CostFormulas();
            feedBlanks(x, 15);
            x.feed(0x773B773B, 0x773B773B, 0x773B773B, 0x773B773B);
            x.cut(length);
            int want = length == 240 ? 256 : FULL;
            due("2 behind " + length, x.feed(0x783B783B, 0x783B783B, 0x783B783B, 0x783B783B), want);
            due("2 bytes behind " + length, x.told(1), length == 240 ? 256 : length);
            boolean odd = length % 2 == 1;
            due("2 text of " + length, x.read(), odd ? -10 - length : 0);
            if (!odd) {
                due("2 w of " + length, x.count(0, 0, 0, 0), (length - 240) / 2);
                due("2 x of " + length, x.count(0, 1, 0, 0), length == 240 ? 8 : 0);
            }
        }
    }

    private static void theTapeIsFedAnewAfterACut() {
        CostFormulas x = new CostFormulas();
        x.feed(0x773B773B, 0x773B773B, 0x773B773B, 0x23232323);
        due("3 cut", x.cut(4), 12);
        due("2 behind what stayed", x.feed(0x783B783B, FOUR_BLANKS, FOUR_BLANKS, FOUR_BLANKS), 20);
        due("2 what went is gone", x.read(), 0);
        due("2 w", x.count(0, 0, 0, 0), 2);
        due("2 x", x.count(0, 1, 0, 0), 2);
    }

    /** One byte that is no TOKEN among blanks, at each of the sixteen places. */
    private static void theHighestByteComesFirst() {
        int[] odd = {128, 255, 0, 127};
        for (int place = 0; place < 16; place++) {
            int[] four = {FOUR_BLANKS, FOUR_BLANKS, FOUR_BLANKS, FOUR_BLANKS};
            int shift = 24 - 8 * (place % 4);
            four[place / 4] = four[place / 4] & ~(255 << shift) | odd[place % 4] << shift;
            CostFormulas x = new CostFormulas();
            due("2 sixteen", x.feed(four[0], four[1], four[2], four[3]), 16);
            due("2 byte " + place, x.read(), -10 - place);
        }
        CostFormulas x = new CostFormulas();
        due("2 the least numbers", x.feed(Integer.MIN_VALUE, Integer.MIN_VALUE, -1, -1), 16);
        due("2 byte 128", x.read(), -10);
    }

    private static void cutKeepsTheFirstBytes() {
        for (int n = 0; n <= 16; n++) {
            CostFormulas x = new CostFormulas();
            x.feed(0x773B773B, 0x773B773B, 0x773B773B, 0x773B773B);
            due("3 cut " + n, x.cut(n), 16 - n);
            due("3 bytes after cut " + n, x.told(1), n);
            due("3 once more " + n, x.cut(n), 0);
            due("3 what stayed of " + n, x.read(), n % 2 == 0 ? 0 : -10 - n);
            due("3 steps of " + n, x.count(0, 0, 0, 0), n % 2 == 0 ? n / 2 : BAD);
        }
        CostFormulas x = new CostFormulas();
        feedBlanks(x, 16);
        due("3 all of 256 stay", x.cut(256), 0);
        due("3 one of 256 goes", x.cut(255), 1);
        due("3 all of 255 go", x.cut(0), 255);
        due("3 none is left", x.told(1), 0);
    }

    private static void cutRefuses() {
        int[] lengths = {0, 1, 16, 240, 256};
        for (int length : lengths) {
            int[] wrong = {-1, length + 1, 257, Integer.MAX_VALUE, Integer.MIN_VALUE};
            for (int n : wrong) {
                CostFormulas x = new CostFormulas();
                feedBlanks(x, 16);
                x.cut(length);
                due("3 cut " + n + " of " + length, x.cut(n), BAD);
                due("3 what is BAD changes nothing", x.told(1), length);
                due("3 blanks are blanks", x.read(), 0);
            }
        }
    }

    private static void placesAreCountedFrom0() {
        for (int place = 0; place < 256; place++) {
            String text = " ".repeat(place) + "#" + " ".repeat(255 - place);
            CostFormulas x = new CostFormulas();
            due("4 FAULT at " + place, Check.read(x, text), -10 - place);
            due("4 no PROGRAM", x.told(0), 0);
        }
    }

    private static void theEndIsHowManyBytesThereAre() {
        due("4 no bytes at all are a PROGRAM", Check.read(new CostFormulas(), ""), 0);
        for (int length = 1; length <= 256; length++) {
            String text = "w" + " ".repeat(length - 1);
            due("4 the end of " + length, Check.read(new CostFormulas(), text), -10 - length);
            due("4 blanks, " + length, Check.read(new CostFormulas(), "\n".repeat(length)), 0);
        }
    }

    private static void bytes32And10AreBlanks() {
        for (int code = 0; code < 256; code++) {
            int want = code == 32 || code == 10 ? 0 : -12;
            due("4 byte " + code, Check.read(new CostFormulas(), "w;" + (char) code + "x;"), want);
        }
        CHECK.taken(" \n\n  for \n i\n=\n1 ..\n 2 { \n w\n2 * \ni ; } run\n1 ( a ,\nb ) ; ");
        CHECK.fault("f or i=1..2{}", 0);
        CHECK.fault("w 1 2;", 4);
        CHECK.fault("w 1\n2;", 4);
        CHECK.fault("for i=1. .2{}", 7);
    }

    private static void wordsAreAsLongAsMayBe() {
        CHECK.taken("w a;");
        CHECK.fault("wa;", 0);
        CHECK.taken("w9;x9*a;");
        CHECK.taken("run1(a,b);");
        CHECK.taken("for i=1..a{}");
        CHECK.fault("fori=1..a{}", 0);
        CHECK.fault("for ij=1..a{}", 4);
        CHECK.fault("w 2*aa;", 4);
        CHECK.fault("w;ww;", 2);
        CHECK.fault("z".repeat(256), 0);
    }

    /** Bytes 96 and 123 are next to a .. z, 64 and 91 to A .. Z. */
    private static void wordsAreOfLettersAlone() {
        CHECK.fault("w`;", 1);
        CHECK.fault("`w;", 0);
        CHECK.fault("w{;", 1);
        CHECK.fault("z|;", 1);
        CHECK.fault("wA;", 1);
        CHECK.fault("wZ;", 1);
        CHECK.fault("w@;", 1);
        CHECK.fault("w[;", 1);
        CHECK.fault("W;", 0);
        CHECK.fault("w \u00e1;", 2);
        CHECK.fault("w \u00f7;", 2);
    }

    /** Each word that differs from for or run by one letter. */
    private static void onlyTwoWordsAreLongerThanALetter() {
        String[] words = {"for", "run"};
        String[] behind = {" i=1..2{}", " 1(a,b);"};
        for (int n = 0; n < 2; n++) {
            CHECK.taken(words[n] + behind[n]);
            CHECK.fault(words[n].substring(0, 2) + behind[n], 0);
            CHECK.fault(words[n] + words[n] + behind[n], 0);
            for (int at = 0; at < 3; at++) {
                for (char letter = 'a'; letter <= 'z'; letter++) {
                    String word = words[n].substring(0, at) + letter + words[n].substring(at + 1);
                    if (!word.equals(words[n])) {
                        CHECK.fault(word + behind[n], 0);
                    }
                }
            }
        }
    }

    private static void numbersHave1Or2Digits() {
        String[] texts = {"0", "9", "00", "09", "10", "99"};
        int[] worth = {0, 9, 0, 9, 10, 99};
        for (int n = 0; n < texts.length; n++) {
            CostFormulas x = Check.with("w " + texts[n] + ";x " + texts[n] + "*a;");
            due("4 NUMBER " + texts[n], x.count(0, 0, 0, 0), worth[n]);
            due("4 NUMBER times a " + texts[n], x.count(0, 1, 1000, 0), 1000 * worth[n]);
        }
        String[] longer = {"000", "001", "100", "999", "4294967297", "18446744073709551617"};
        for (String digits : longer) {
            CHECK.fault("w " + digits + ";", 2);
            CHECK.fault("w " + digits + "*a;", 2);
            CHECK.fault("w a+" + digits + ";", 4);
            CHECK.fault("for i=" + digits + "..2{}", 6);
            CHECK.fault("for i=1.." + digits + "{}", 9);
            CHECK.fault("run " + digits + "(a,b);", 4);
        }
        CHECK.fault("0".repeat(256), 0);
    }

    /** Bytes 47 and 58 are next to 0 .. 9. */
    private static void numbersAreOfDigitsAlone() {
        CHECK.fault("w 1/;", 3);
        CHECK.fault("w 1:;", 3);
        CHECK.fault("w /1;", 2);
        CHECK.fault("w :1;", 2);
        CHECK.fault("w 1.5;", 3);
        CHECK.fault("w 1a;", 3);
    }

    private static void dotsAreTwo() {
        CHECK.taken("for i=1..2{}");
        CHECK.taken("for i=1 .. 2{}");
        CHECK.fault("for i=1.2{}", 7);
        CHECK.fault("for i=1.", 7);
        CHECK.fault("for i=1..", 9);
        CHECK.fault("for i=1...2{}", 9);
        CHECK.fault("for i=1....2{}", 9);
        CHECK.fault("for i=1\n.\n.2{}", 8);
        CHECK.fault(".", 0);
        CHECK.fault("..", 0);
    }
}
