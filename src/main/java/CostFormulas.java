import java.util.Arrays;

/** What programs of loops cost, as formulas; the document ../shared/DOC.md says what each call answers. */
public final class CostFormulas {
    public static final int BAD = -1, NONE = -2, NOT = -3, SPENT = -4, BROKEN = -5, FULL = -6;
    public static final long TOO_GREAT = -9000000000000000000L;

    private static final int MOST_PROGRAMS = 8;
    private static final int KINDS = 4;
    private static final int COST = -1;
    private static final int MOST_START = 8;
    private static final int MOST_INPUT = 1000;
    private static final int MOST_PRICE = 1000;
    private static final int MOST_DEGREE = 5;

    /** FACTOR i, j stands at i * SIDE + j of a grid. */
    private static final int SIDE = MOST_DEGREE + 1;
    private static final int GRID = SIDE * SIDE;

    /** The terms of a LINE: its number, its factors of a and of b, then of the fors around, outermost first. */
    private static final int MOST_FORS = 4;
    private static final int NUMBER_TERM = 0, A_TERM = 1, B_TERM = 2, FOR_TERM = 3;
    private static final int TERMS = FOR_TERM + MOST_FORS;

    private final Tape tape = new Tape();
    private final Program[] programs = new Program[MOST_PROGRAMS + 1];
    private final Reader reader;
    private final Runner runner;
    private final Prover prover;
    private final Fitter fitter;
    private final long[] prices = new long[KINDS];
    private final long[] own = new long[GRID];
    private final long[] points = new long[GRID];
    private final long[] one = new long[GRID];
    private final long[] other = new long[GRID];
    private int held;

    public CostFormulas() {
        // One more than may be held: a text is read into it before it is known whether there is room.
        for (int n = 0; n < programs.length; n++) {
            programs[n] = new Program();
        }
        reader = new Reader(tape, programs);
        runner = new Runner(programs);
        prover = new Prover(programs);
        fitter = new Fitter(programs, runner);
        Arrays.fill(prices, 1L);
    }

    public int feed(int a, int b, int c, int d) {
        if (!tape.hasRoomFor(16)) {
            return FULL;
        }
        tape.append(a);
        tape.append(b);
        tape.append(c);
        tape.append(d);
        return tape.length;
    }

    public int cut(int n) {
        if (n < 0 || n > tape.length) {
            return BAD;
        }
        int gone = tape.length - n;
        tape.length = n;
        return gone;
    }

    public int read() {
        int fault = reader.readInto(held);
        tape.length = 0;
        if (fault != 0) {
            return fault;
        }
        if (held >= MOST_PROGRAMS || programs[held].overflows()) {
            return FULL;
        }
        return held++;
    }

    public int drop() {
        if (held == 0) {
            return NONE;
        }
        held--;
        return held;
    }

    public long count(int program, int kind, int a, int b) {
        if (!isProgram(program) || !isKind(kind) || !isWithin(a, 0, MOST_INPUT) || !isWithin(b, 0, MOST_INPUT)) {
            return BAD;
        }
        int end = runner.runWith(program, a, b);
        return end == Runner.FINE ? runner.made[kind] : end;
    }

    public int degree(int program) {
        return isProgram(program) ? programs[program].degree : BAD;
    }

    public int judge(int program, int a, int b) {
        if (!isProgram(program) || !isWithin(a, 0, MOST_START) || !isWithin(b, 0, MOST_START)) {
            return BAD;
        }
        if (!prover.proves(program, a, b)) {
            programs[program].forgetStart();
            return 0;
        }
        programs[program].startFrom(a, b);
        return 1;
    }

    public int shown(int program, int what) {
        if (!isProgram(program) || !isWithin(what, 0, 2)) {
            return BAD;
        }
        if (what == 2) {
            return fitter.hasFormulas(program) ? 1 : 0;
        }
        if (!programs[program].isShown()) {
            return NONE;
        }
        return what == 0 ? programs[program].startA : programs[program].startB;
    }

    public long factor(int program, int kind, int i, int j) {
        if (!isProgram(program) || !isKind(kind) || !isWithin(i, 0, MOST_DEGREE) || !isWithin(j, 0, MOST_DEGREE)) {
            return TOO_GREAT;
        }
        if (!fitter.hasFormulas(program)) {
            return TOO_GREAT;
        }
        if (i + j > programs[program].degree) {
            return 0;
        }
        return programs[program].factors[kind * GRID + i * SIDE + j];
    }

    public long steps(int program, int kind, int a, int b) {
        if (!isProgram(program) || !isWithin(kind, COST, KINDS - 1) || !fitter.hasFormulas(program)) {
            return TOO_GREAT;
        }
        Program asked = programs[program];
        if (!isWithin(a, asked.startA, MOST_INPUT) || !isWithin(b, asked.startB, MOST_INPUT)) {
            return TOO_GREAT;
        }
        if (kind == COST) {
            fillCostFactors(asked, own);
        } else {
            System.arraycopy(asked.factors, kind * GRID, own, 0, GRID);
        }
        return Sums.valueAt(own, asked.degree, a - asked.startA, b - asked.startB);
    }

    public int price(int kind, int p) {
        if (!isKind(kind) || !isWithin(p, 0, MOST_PRICE)) {
            return BAD;
        }
        int was = (int) prices[kind];
        prices[kind] = p;
        return was;
    }

    public int compare(int p, int q) {
        if (!isProgram(p) || !isProgram(q)) {
            return BAD;
        }
        if (!fitter.hasFormulas(p) || !fitter.hasFormulas(q)) {
            return NOT;
        }
        Program left = programs[p];
        Program right = programs[q];
        int a = Math.max(left.startA, right.startA);
        int b = Math.max(left.startB, right.startB);
        int most = Math.max(left.degree, right.degree);
        if (!fillMovedFactors(left, a, b, most, one) || !fillMovedFactors(right, a, b, most, other)) {
            return SPENT;
        }
        return order(one, other, most);
    }

    public int overtakes(int p, int q, int b) {
        if (!isProgram(p) || !isProgram(q) || !isWithin(b, 0, MOST_INPUT)) {
            return BAD;
        }
        if (!fitter.hasFormulas(p) || !fitter.hasFormulas(q)) {
            return NOT;
        }
        Program left = programs[p];
        Program right = programs[q];
        // The greater B is told of two programs with FORMULAS alone, so this BAD comes behind NOT.
        if (b < Math.max(left.startB, right.startB)) {
            return BAD;
        }
        if (!fillCostFactors(left, one) || !fillCostFactors(right, other)) {
            return SPENT;
        }
        for (int a = Math.max(left.startA, right.startA); a <= MOST_INPUT; a++) {
            long leftCost = Sums.valueAt(one, left.degree, a - left.startA, b - left.startB);
            long rightCost = Sums.valueAt(other, right.degree, a - right.startA, b - right.startB);
            if (leftCost == TOO_GREAT || rightCost == TOO_GREAT) {
                return SPENT;
            }
            if (leftCost > rightCost) {
                return a;
            }
        }
        return NONE;
    }

    public int grows(int program) {
        if (!isProgram(program)) {
            return BAD;
        }
        if (!fitter.hasFormulas(program)) {
            return NOT;
        }
        if (!fillCostFactors(programs[program], own)) {
            return SPENT;
        }
        int greatest = NONE;
        for (int i = 0; i < SIDE; i++) {
            for (int j = 0; j < SIDE; j++) {
                if (own[i * SIDE + j] != 0) {
                    greatest = Math.max(greatest, i + j);
                }
            }
        }
        return greatest;
    }

    public int told(int what) {
        if (what == 0) {
            return held;
        }
        if (what == 1) {
            return tape.length;
        }
        return isKind(what - 2) ? (int) prices[what - 2] : BAD;
    }

    private boolean isProgram(int number) {
        return number >= 0 && number < held;
    }

    private static boolean isKind(int kind) {
        return kind >= 0 && kind < KINDS;
    }

    private static boolean isWithin(int x, int least, int most) {
        return x >= least && x <= most;
    }

    /** False if one is TOO GREAT; all are filled in even then, so that a sum with them is TOO GREAT as well. */
    private boolean fillCostFactors(Program priced, long[] grid) {
        boolean fine = true;
        for (int at = 0; at < GRID; at++) {
            long sum = 0;
            for (int kind = 0; kind < KINDS; kind++) {
                sum = Sums.plus(sum, Sums.times(priced.factors[kind * GRID + at], prices[kind]));
            }
            grid[at] = sum;
            fine = fine && sum != TOO_GREAT;
        }
        return fine;
    }

    /** FACTORS of the COST as if its FORMULAS began at a, b; false if a number on the way is TOO GREAT. */
    private boolean fillMovedFactors(Program priced, int a, int b, int most, long[] grid) {
        if (!fillCostFactors(priced, own)) {
            return false;
        }
        for (int i = 0; i <= most; i++) {
            for (int j = 0; i + j <= most; j++) {
                long cost = Sums.valueAt(own, priced.degree, a + i - priced.startA, b + j - priced.startB);
                if (cost == TOO_GREAT) {
                    return false;
                }
                points[i * SIDE + j] = cost;
            }
        }
        boolean fine = true;
        for (int i = 0; i <= most; i++) {
            for (int j = 0; i + j <= most; j++) {
                long moved = Sums.boundedFactor(points, i, j);
                grid[i * SIDE + j] = moved;
                fine = fine && moved != TOO_GREAT;
            }
        }
        return fine;
    }

    private static int order(long[] left, long[] right, int most) {
        boolean leftLess = false;
        boolean rightLess = false;
        for (int i = 0; i <= most; i++) {
            for (int j = 0; i + j <= most; j++) {
                int at = i * SIDE + j;
                leftLess = leftLess || left[at] < right[at];
                rightLess = rightLess || right[at] < left[at];
            }
        }
        if (leftLess) {
            return rightLess ? 3 : 2;
        }
        return rightLess ? 1 : 0;
    }

    /** Numbers that end at 10^18: what is beyond is TOO GREAT, and stays so in all that is made of it. */
    private static final class Sums {
        private static final long MOST = 1000000000000000000L;

        /** C(n, k) at n * SIDE + k. */
        private static final int[] CHOICES = {
            1, 0, 0, 0, 0, 0,
            1, 1, 0, 0, 0, 0,
            1, 2, 1, 0, 0, 0,
            1, 3, 3, 1, 0, 0,
            1, 4, 6, 4, 1, 0,
            1, 5, 10, 10, 5, 1
        };

        static long times(long x, long y) {
            if (x == TOO_GREAT || y == TOO_GREAT) {
                return TOO_GREAT;
            }
            if (x == 0 || y == 0) {
                return 0;
            }
            return Math.abs(x) > MOST / Math.abs(y) ? TOO_GREAT : x * y;
        }

        static long plus(long x, long y) {
            if (x == TOO_GREAT || y == TOO_GREAT) {
                return TOO_GREAT;
            }
            long sum = x + y;
            return sum < -MOST || sum > MOST ? TOO_GREAT : sum;
        }

        /** The sum of FACTOR i, j times C(a, i) C(b, j). */
        static long valueAt(long[] grid, int degree, int a, int b) {
            long sum = 0;
            long chooseA = 1;
            for (int i = 0; i <= degree; i++) {
                long chooseB = 1;
                for (int j = 0; i + j <= degree; j++) {
                    sum = plus(sum, times(grid[i * SIDE + j], chooseA * chooseB));
                    chooseB = chooseB * (b - j) / (j + 1);
                }
                chooseA = chooseA * (a - i) / (i + 1);
            }
            return sum;
        }

        /** (-1)^(i - p + j - q) C(i, p) C(j, q). */
        static long weight(int i, int j, int p, int q) {
            long product = CHOICES[i * SIDE + p] * CHOICES[j * SIDE + q];
            return (i - p + j - q) % 2 == 0 ? product : -product;
        }

        /** FACTOR i, j of numbers of steps: they are below 10^17 each, so that a long holds every sum. */
        static long exactFactor(long[] numbers, int from, int i, int j) {
            long sum = 0;
            for (int p = 0; p <= i; p++) {
                for (int q = 0; q <= j; q++) {
                    sum += weight(i, j, p, q) * numbers[from + p * SIDE + q];
                }
            }
            return sum;
        }

        static long boundedFactor(long[] numbers, int i, int j) {
            long sum = 0;
            for (int p = 0; p <= i; p++) {
                for (int q = 0; q <= j; q++) {
                    sum = plus(sum, times(numbers[p * SIDE + q], weight(i, j, p, q)));
                }
            }
            return sum;
        }
    }

    private static final class Tape {
        private static final int MOST_BYTES = 256;

        private final int[] bytes = new int[MOST_BYTES];
        private int length;

        boolean hasRoomFor(int more) {
            return length + more <= MOST_BYTES;
        }

        void append(int four) {
            for (int shift = 24; shift >= 0 && length < MOST_BYTES; shift -= 8) {
                bytes[length] = (four >>> shift) & 255;
                length++;
            }
        }

        /** The byte at a place, or -1 behind the end. */
        int at(int place) {
            return place >= 0 && place < length ? bytes[place] : -1;
        }
    }

    /** THE TAPE as TOKENS. Signs and words of one letter are known by their byte. */
    private static final class Tokens {
        static final int END = 0, UNKNOWN = 1, NUMBER = 2, FOR = 3, RUN = 4, DOTS = '.';

        private final Tape tape;
        /** Of each TOKEN; the last one is the end. */
        private final int[] kinds = new int[Tape.MOST_BYTES + 1];
        private final int[] places = new int[Tape.MOST_BYTES + 1];
        private final int[] values = new int[Tape.MOST_BYTES + 1];
        private int size;
        private int now;

        Tokens(Tape tape) {
            this.tape = tape;
        }

        void scan() {
            size = 0;
            now = 0;
            int place = 0;
            while (place < tape.length) {
                int first = tape.at(place);
                int width = 1;
                if (isLetter(first)) {
                    width = scanWord(place);
                } else if (isDigit(first)) {
                    width = scanNumber(place);
                } else if (first == '.') {
                    width = scanDots(place);
                } else if (!isBlank(first)) {
                    add(isSign(first) ? first : UNKNOWN, place, 0);
                }
                place += Math.max(1, width);
            }
            add(END, tape.length, 0);
        }

        int kind() {
            return kinds[now];
        }

        int place() {
            return places[now];
        }

        int value() {
            return values[now];
        }

        void advance() {
            if (now + 1 < size) {
                now++;
            }
        }

        private void add(int kind, int place, int value) {
            if (size < kinds.length) {
                kinds[size] = kind;
                places[size] = place;
                values[size] = value;
                size++;
            }
        }

        private int scanWord(int place) {
            int end = place;
            while (end < tape.length && isLetter(tape.at(end))) {
                end++;
            }
            int kind = UNKNOWN;
            if (end - place == 1) {
                kind = tape.at(place);
            } else if (end - place == 3 && spells(place, 'f', 'o', 'r')) {
                kind = FOR;
            } else if (end - place == 3 && spells(place, 'r', 'u', 'n')) {
                kind = RUN;
            }
            add(kind, place, 0);
            return end - place;
        }

        private boolean spells(int place, int first, int second, int third) {
            return tape.at(place) == first && tape.at(place + 1) == second && tape.at(place + 2) == third;
        }

        private int scanNumber(int place) {
            int end = place;
            int value = 0;
            while (end < tape.length && isDigit(tape.at(end))) {
                value = value * 10 + tape.at(end) - '0';
                end++;
            }
            add(end - place <= 2 ? NUMBER : UNKNOWN, place, value);
            return end - place;
        }

        private int scanDots(int place) {
            boolean two = tape.at(place + 1) == '.';
            add(two ? DOTS : UNKNOWN, place, 0);
            return two ? 2 : 1;
        }

        private static boolean isBlank(int code) {
            return code == 32 || code == 10;
        }

        private static boolean isLetter(int code) {
            return code >= 'a' && code <= 'z';
        }

        private static boolean isDigit(int code) {
            return code >= '0' && code <= '9';
        }

        private static boolean isSign(int code) {
            switch (code) {
                case '=': case '+': case '-': case '*': case ';':
                case '(': case ')': case ',': case '{': case '}':
                    return true;
                default:
                    return false;
            }
        }
    }

    /**
     * A PROGRAM: its STATEMENTS in the order of the text, those of a for behind it; where it is SHOWN from; its
     * FACTORS.
     */
    private static final class Program {
        static final int STEP = 0, STEP_LINE = 1, FOR = 2, RUN = 3;
        static final int UNKNOWN = 0, THERE = 1, MISSING = 2;
        static final int MOST_STATEMENTS = 40;

        /** All that the text has, though not more than MOST_STATEMENTS of them are kept. */
        private int size;
        private final int[] sort = new int[MOST_STATEMENTS];
        /** The KIND of a STEP, the number of a run's PROGRAM. */
        private final int[] which = new int[MOST_STATEMENTS];
        /** How many fors are around. */
        private final int[] depth = new int[MOST_STATEMENTS];
        /** The STATEMENT behind it and all that is in it. */
        private final int[] after = new int[MOST_STATEMENTS];
        /** The LINES: term t of STATEMENT s at s * TERMS + t. */
        private final long[] firstLines = new long[MOST_STATEMENTS * TERMS];
        private final long[] secondLines = new long[MOST_STATEMENTS * TERMS];
        private int degree;
        private int startA = NONE;
        private int startB = NONE;
        private int formulas;
        private final long[] factors = new long[KINDS * GRID];

        void clear() {
            size = 0;
            degree = 0;
            Arrays.fill(firstLines, 0L);
            Arrays.fill(secondLines, 0L);
            forgetStart();
        }

        boolean overflows() {
            return size > MOST_STATEMENTS;
        }

        boolean keeps(int statement) {
            return statement >= 0 && statement < size && statement < MOST_STATEMENTS;
        }

        int add(int newSort, int newWhich, int newDepth) {
            int statement = size;
            size++;
            if (keeps(statement)) {
                sort[statement] = newSort;
                which[statement] = newWhich;
                depth[statement] = newDepth;
                after[statement] = statement + 1;
            }
            return statement;
        }

        void close(int statement) {
            if (keeps(statement)) {
                after[statement] = size;
            }
        }

        void raiseDegree(int to) {
            degree = Math.max(degree, to);
        }

        boolean isShown() {
            return startA >= 0;
        }

        void forgetStart() {
            startA = NONE;
            startB = NONE;
            formulas = UNKNOWN;
        }

        void startFrom(int a, int b) {
            // The RUNS of a PROGRAM never change, so what was found from the same start stays true.
            if (a != startA || b != startB) {
                formulas = UNKNOWN;
            }
            startA = a;
            startB = b;
        }
    }

    /** Makes a PROGRAM of THE TAPE. */
    private static final class Reader {
        private static final int MOST_PARTS = 8;

        private final Tokens tokens;
        private final Program[] programs;
        /** The VARIABLES and the STATEMENTS of the fors around, outermost first. */
        private final int[] names = new int[MOST_FORS];
        private final int[] around = new int[MOST_FORS];
        private int depth;
        private int fault;
        private int held;
        private Program text;

        Reader(Tape tape, Program[] programs) {
            this.tokens = new Tokens(tape);
            this.programs = programs;
            this.text = programs[0];
        }

        /** 0, or the FAULT. The PROGRAM stands behind those that are held. */
        int readInto(int heldBefore) {
            held = heldBefore;
            text = programs[heldBefore];
            text.clear();
            depth = 0;
            fault = 0;
            tokens.scan();
            boolean more = true;
            // Each time takes a TOKEN at least, or is the last.
            for (int times = 0; more && fault == 0 && times < tokens.size; times++) {
                more = readNext();
            }
            return fault;
        }

        /** A STATEMENT, or the head of a for, or its end; false at the end of the text. */
        private boolean readNext() {
            int kind = tokens.kind();
            switch (kind) {
                case 'w': case 'x': case 'y': case 'z':
                    readStep(kind - 'w');
                    return true;
                case Tokens.FOR:
                    readFor();
                    return true;
                case Tokens.RUN:
                    readRun();
                    return true;
                case '}':
                    readClose();
                    return true;
                default:
                    if (kind != Tokens.END || depth > 0) {
                        refuse();
                    }
                    return false;
            }
        }

        private void refuse() {
            if (fault == 0) {
                fault = -10 - tokens.place();
            }
        }

        /** After a FAULT no TOKEN is taken any more, so that the first one stays. */
        private void expect(int kind) {
            if (tokens.kind() != kind) {
                refuse();
            }
            if (fault == 0) {
                tokens.advance();
            }
        }

        private void readStep(int kind) {
            tokens.advance();
            if (tokens.kind() == ';') {
                text.add(Program.STEP, kind, depth);
                text.raiseDegree(depth);
            } else {
                int statement = text.add(Program.STEP_LINE, kind, depth);
                text.raiseDegree(depth + 1);
                readLine(text.firstLines, statement);
            }
            expect(';');
        }

        private void readFor() {
            if (depth >= MOST_FORS) {
                refuse();
                return;
            }
            tokens.advance();
            int name = tokens.kind();
            if (name < 'i' || name > 'm' || termOf(name) >= 0) {
                refuse();
                return;
            }
            tokens.advance();
            expect('=');
            int statement = text.add(Program.FOR, 0, depth);
            text.raiseDegree(depth + 1);
            readLine(text.firstLines, statement);
            expect(Tokens.DOTS);
            readLine(text.secondLines, statement);
            expect('{');
            names[depth] = name;
            around[depth] = statement;
            depth++;
        }

        private void readClose() {
            if (depth <= 0) {
                refuse();
                return;
            }
            tokens.advance();
            depth--;
            text.close(around[depth]);
        }

        private void readRun() {
            tokens.advance();
            int number = tokens.value();
            if (tokens.kind() != Tokens.NUMBER || number < 0 || number >= held) {
                refuse();
                return;
            }
            tokens.advance();
            expect('(');
            int statement = text.add(Program.RUN, number, depth);
            text.raiseDegree(depth + programs[number].degree);
            readLine(text.firstLines, statement);
            expect(',');
            readLine(text.secondLines, statement);
            expect(')');
            expect(';');
        }

        private void readLine(long[] lines, int statement) {
            readPart(lines, statement, 1);
            for (int parts = 1; parts < MOST_PARTS && isAtSign(); parts++) {
                int sign = tokens.kind() == '+' ? 1 : -1;
                tokens.advance();
                readPart(lines, statement, sign);
            }
            if (isAtSign()) {
                refuse();
            }
        }

        private boolean isAtSign() {
            return fault == 0 && (tokens.kind() == '+' || tokens.kind() == '-');
        }

        private void readPart(long[] lines, int statement, int sign) {
            if (fault != 0) {
                return;
            }
            int factor = sign;
            int term = NUMBER_TERM;
            boolean named = true;
            if (tokens.kind() == Tokens.NUMBER) {
                factor = sign * tokens.value();
                tokens.advance();
                named = tokens.kind() == '*';
                if (named) {
                    tokens.advance();
                }
            }
            if (named) {
                term = termOf(tokens.kind());
                if (term < 0) {
                    refuse();
                    return;
                }
                tokens.advance();
            }
            if (text.keeps(statement)) {
                lines[statement * TERMS + term] += factor;
            }
        }

        /** Which term of a LINE a NAME is, or -1. */
        private int termOf(int name) {
            if (name == 'a') {
                return A_TERM;
            }
            if (name == 'b') {
                return B_TERM;
            }
            for (int d = 0; d < depth; d++) {
                if (names[d] == name) {
                    return FOR_TERM + d;
                }
            }
            return -1;
        }
    }

    /** Makes RUNS. */
    private static final class Runner {
        static final int FINE = 0;
        private static final int MOST_TURNS = 20000;
        private static final long MOST_REACH = 100000000000L;
        private static final long MOST_RUN_INPUT = 1000000L;
        /** In each PROGRAM four fors and a run. */
        private static final int MOST_LEVELS = MOST_PROGRAMS * (MOST_FORS + 1);

        private final Program[] programs;
        /** Steps of each KIND. */
        private final long[] made = new long[KINDS];
        /**
         * What the terms of LINES are worth in each PROGRAM. A PROGRAM runs lesser ones alone, so each of them is
         * open once at most.
         */
        private final long[] worth = new long[MOST_PROGRAMS * TERMS];
        private int turns;
        private int end;

        Runner(Program[] programs) {
            this.programs = programs;
        }

        /** FINE, SPENT or BROKEN. */
        int runWith(int number, int a, int b) {
            Arrays.fill(made, 0L);
            turns = 0;
            end = FINE;
            putInputs(number, a, b);
            runBlock(number, 0, programs[number].size, 0);
            return end;
        }

        private void putInputs(int number, long a, long b) {
            int base = number * TERMS;
            worth[base + NUMBER_TERM] = 1;
            worth[base + A_TERM] = a;
            worth[base + B_TERM] = b;
        }

        private void runBlock(int number, int from, int to, int level) {
            if (level >= MOST_LEVELS) {
                end = BROKEN;
                return;
            }
            Program text = programs[number];
            for (int s = from; s < to && end == FINE; s = Math.max(s + 1, text.after[s])) {
                switch (text.sort[s]) {
                    case Program.STEP:
                        made[text.which[s]]++;
                        break;
                    case Program.STEP_LINE:
                        makeSteps(number, s);
                        break;
                    case Program.FOR:
                        runFor(number, s, level);
                        break;
                    default:
                        runOther(number, s, level);
                        break;
                }
            }
        }

        private void makeSteps(int number, int s) {
            Program text = programs[number];
            long more = reckon(number, s, text.firstLines);
            if (more < 0) {
                end = BROKEN;
            }
            made[text.which[s]] += more;
        }

        private void runFor(int number, int s, int level) {
            Program text = programs[number];
            long first = reckon(number, s, text.firstLines);
            long last = reckon(number, s, text.secondLines);
            int variable = number * TERMS + FOR_TERM + text.depth[s];
            for (long v = first; v <= last && takesTurn(); v++) {
                worth[variable] = v;
                runBlock(number, s + 1, text.after[s], level + 1);
            }
        }

        private void runOther(int number, int s, int level) {
            // A TURN goes before the LINES: with the one too many it is SPENT, whatever they are.
            if (!takesTurn()) {
                return;
            }
            Program text = programs[number];
            long a = reckon(number, s, text.firstLines);
            long b = reckon(number, s, text.secondLines);
            int called = text.which[s];
            if (called >= number || !isRunInput(a) || !isRunInput(b)) {
                end = BROKEN;
                return;
            }
            putInputs(called, a, b);
            runBlock(called, 0, programs[called].size, level + 1);
        }

        private static boolean isRunInput(long x) {
            return x >= 0 && x <= MOST_RUN_INPUT;
        }

        private boolean takesTurn() {
            if (end == FINE) {
                turns++;
                if (turns > MOST_TURNS) {
                    end = SPENT;
                }
            }
            return end == FINE;
        }

        private long reckon(int number, int s, long[] lines) {
            int at = s * TERMS;
            int base = number * TERMS;
            int terms = FOR_TERM + programs[number].depth[s];
            long sum = 0;
            for (int t = 0; t < terms; t++) {
                sum += lines[at + t] * worth[base + t];
            }
            if (sum < -MOST_REACH || sum > MOST_REACH) {
                end = BROKEN;
            }
            return sum;
        }
    }

    /** Finds out whether a PROGRAM is SHOWN. */
    private static final class Prover {
        private final Program[] programs;
        /** The LINE that must be 0 or more; its factors stay below 10^16, whatever is put into it. */
        private final long[] row = new long[TERMS];
        private final int[] around = new int[MOST_FORS];
        private Program text;
        private int startA;
        private int startB;

        Prover(Program[] programs) {
            this.programs = programs;
            this.text = programs[0];
        }

        boolean proves(int number, int a, int b) {
            text = programs[number];
            startA = a;
            startB = b;
            boolean holds = text.degree <= MOST_DEGREE;
            for (int s = 0; holds && s < text.size; s++) {
                holds = provesStatement(s);
            }
            return holds;
        }

        private boolean provesStatement(int s) {
            switch (text.sort[s]) {
                case Program.STEP:
                    return true;
                case Program.STEP_LINE:
                    return provesLess(s, text.firstLines, 0);
                case Program.FOR:
                    return provesFor(s);
                default:
                    Program called = programs[text.which[s]];
                    return called.isShown() && provesLess(s, text.firstLines, called.startA)
                        && provesLess(s, text.secondLines, called.startB);
            }
        }

        private boolean provesFor(int s) {
            Arrays.fill(row, 0L);
            addLine(text.secondLines, s, 1);
            addLine(text.firstLines, s, -1);
            row[NUMBER_TERM]++;
            // The latest for of each depth is the one around what follows.
            around[text.depth[s]] = s;
            return provesRow(text.depth[s]);
        }

        /** Of a LINE less a number. */
        private boolean provesLess(int s, long[] lines, int less) {
            Arrays.fill(row, 0L);
            addLine(lines, s, 1);
            row[NUMBER_TERM] -= less;
            return provesRow(text.depth[s]);
        }

        private void addLine(long[] lines, int s, long times) {
            for (int t = 0; t < TERMS; t++) {
                row[t] += times * lines[s * TERMS + t];
            }
        }

        private boolean provesRow(int depth) {
            for (int d = depth - 1; d >= 0; d--) {
                long factor = row[FOR_TERM + d];
                row[FOR_TERM + d] = 0;
                addLine(factor > 0 ? text.firstLines : text.secondLines, around[d], factor);
            }
            return row[A_TERM] >= 0 && row[B_TERM] >= 0
                && row[A_TERM] * startA + row[B_TERM] * startB + row[NUMBER_TERM] >= 0;
        }
    }

    /** Finds the FACTORS of PROGRAMS that are SHOWN, when they are first asked for. */
    private static final class Fitter {
        private final Program[] programs;
        private final Runner runner;
        private final long[] counts = new long[KINDS * GRID];

        Fitter(Program[] programs, Runner runner) {
            this.programs = programs;
            this.runner = runner;
        }

        boolean hasFormulas(int number) {
            Program text = programs[number];
            if (!text.isShown()) {
                return false;
            }
            if (text.formulas == Program.UNKNOWN) {
                text.formulas = fit(number) ? Program.THERE : Program.MISSING;
            }
            return text.formulas == Program.THERE;
        }

        private boolean fit(int number) {
            Program text = programs[number];
            for (int i = 0; i <= text.degree; i++) {
                for (int j = 0; i + j <= text.degree; j++) {
                    if (runner.runWith(number, text.startA + i, text.startB + j) != Runner.FINE) {
                        return false;
                    }
                    for (int kind = 0; kind < KINDS; kind++) {
                        counts[kind * GRID + i * SIDE + j] = runner.made[kind];
                    }
                }
            }
            fillFactors(text);
            return true;
        }

        private void fillFactors(Program text) {
            Arrays.fill(text.factors, 0L);
            for (int kind = 0; kind < KINDS; kind++) {
                for (int i = 0; i <= text.degree; i++) {
                    for (int j = 0; i + j <= text.degree; j++) {
                        text.factors[kind * GRID + i * SIDE + j] = Sums.exactFactor(counts, kind * GRID, i, j);
                    }
                }
            }
        }
    }
}
