/** What the tests share: texts put on THE TAPE, and answers held against those that are due. */
final class Check {
    private int wrong;
    private int asked;

    /** Puts a text behind what is on THE TAPE; its characters are the bytes. */
    static void put(CostFormulas x, String text) {
        int before = x.told(1);
        int[] four = new int[4];
        for (int from = 0; from < text.length(); from += 16) {
            for (int n = 0; n < 16; n++) {
                int code = from + n < text.length() ? text.charAt(from + n) & 255 : 32;
                four[n / 4] = four[n / 4] << 8 | code;
            }
            x.feed(four[0], four[1], four[2], four[3]);
        }
        x.cut(before + text.length());
    }

    static int read(CostFormulas x, String text) {
        put(x, text);
        return x.read();
    }

    static CostFormulas with(String... texts) {
        CostFormulas x = new CostFormulas();
        for (String text : texts) {
            int number = read(x, text);
            if (number < 0) {
                throw new IllegalStateException(text + " answered " + number);
            }
        }
        return x;
    }

    /** PROGRAMS that are all SHOWN from 0, 0 on. */
    static CostFormulas shown(String... texts) {
        CostFormulas x = with(texts);
        for (int n = 0; n < texts.length; n++) {
            if (x.judge(n, 0, 0) != 1) {
                throw new IllegalStateException(texts[n] + " is not SHOWN");
            }
        }
        return x;
    }

    /** A text that is read behind two PROGRAMS. */
    void taken(String text) {
        CostFormulas x = with("w;", "w a;");
        due("4 '" + text + "' is taken", read(x, text), 2);
        due("4 THE TAPE is empty after '" + text + "'", x.told(1), 0);
        due("4 PROGRAMS with '" + text + "'", x.told(0), 3);
    }

    /** A text that has a FAULT: nothing of it stays, and the next text is read as if it had not been. */
    void fault(String text, int place) {
        CostFormulas x = with("w;", "w a;");
        due("4 FAULT of '" + text + "'", read(x, text), -10 - place);
        due("4 THE TAPE is empty after '" + text + "'", x.told(1), 0);
        due("4 no PROGRAM of '" + text + "'", x.told(0), 2);
        due("4 the text behind '" + text + "'", read(x, "for i=1..a{w;}"), 2);
        due("4 steps of the text behind '" + text + "'", x.count(2, 0, 7, 0), 7);
        due("4 DEGREE of the text behind '" + text + "'", x.degree(2), 1);
    }

    void due(String what, long got, long want) {
        asked++;
        if (got != want) {
            wrong++;
            System.out.println(what + " answered " + got + ", due is " + want);
        }
    }

    void end() {
        System.out.println(asked + " answers, " + wrong + " of them not as due");
        if (wrong != 0) {
            System.exit(1);
        }
    }
}
