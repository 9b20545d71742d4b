/** What the tests share: texts put on THE TAPE, and answers held against those that are due. */
final class Check {
    private int wrong;
    private int asked;

    /** Puts a text behind what is on THE TAPE; its characters are the bytes. */
    static void put(CostFormulas x, String text) {
        int before = x.told(1);
        int[] four = new int[4];
        for (int from = 0; from < text.length(); from += 16) {
            for (int n = 0; n < 16; n++) {
                int code = from + n < text.length() ? text.charAt(from + n) & 255 : 32;
                four[n / 4] = four[n / 4] << 8 | code;
            }
            x.feed(four[0], four[1], four[2], four[3]);
        }
        x.cut(before + text.length());
    }

    static int read(CostFormulas x, String text) {
        put(x, text);
        return x.read();
    }

    static CostFormulas with(String... texts) {
        CostFormulas x = new CostFormulas();
        for (String text : texts) {
            int number = read(x, text);
            if (number < 0) {
                throw new IllegalStateException(text + " answered " + number);
            }
        }
        return x;
    }

    void due(String what, long got, long want) {
        asked++;
        if (got != want) {
            wrong++;
            System.out.println(what + " answered " + got + ", due is " + want);
        }
    }

    void end() {
        System.out.println(asked + " answers, " + wrong + " of them not as due");
        if (wrong != 0) {
            System.exit(1);
        }
    }
}
