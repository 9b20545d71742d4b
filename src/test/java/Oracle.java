import java.math.BigInteger;
import java.util.ArrayList;
import java.util.HashMap;
import java.util.List;
import java.util.Map;

/** The document once more, written as plainly as may be: trees, maps, whole numbers without an end, exceptions. */
final class Oracle {
    private static final BigInteger LIMIT = BigInteger.TEN.pow(18);
    private static final BigInteger REACH = BigInteger.TEN.pow(11);
    private static final BigInteger MILLION = BigInteger.valueOf(1000000);
    private static final long TOO_GREAT = -9000000000000000000L;

    private static final class Refused extends RuntimeException {
        private static final long serialVersionUID = 1L;
        final int answer;

        Refused(int answer) {
            super(null, null, false, false);
            this.answer = answer;
        }
    }

    /** Factors of names; that of "" is the number. */
    private static final class Line {
        final Map<String, BigInteger> factors = new HashMap<>();

        BigInteger of(String name) {
            return factors.getOrDefault(name, BigInteger.ZERO);
        }

        Line plus(Line other, BigInteger times) {
            Line sum = new Line();
            sum.factors.putAll(factors);
            other.factors.forEach((name, factor) -> sum.factors.merge(name, factor.multiply(times), BigInteger::add));
            return sum;
        }

        Line without(String name) {
            Line rest = new Line();
            rest.factors.putAll(factors);
            rest.factors.remove(name);
            return rest;
        }
    }

    private static final class Node {
        char sort;
        int which;
        String name;
        Line first;
        Line second;
        List<Node> inside = new ArrayList<>();

        int size() {
            return 1 + inside.stream().mapToInt(Node::size).sum();
        }
    }

    private static final class Text {
        List<Node> nodes;
        int degree;
        int[] start;
        /** Whether factors were looked for since it was judged; they may be null even so. */
        boolean looked;
        BigInteger[][][] factors;
    }

    private final StringBuilder tape = new StringBuilder();
    private final List<Text> texts = new ArrayList<>();
    private final int[] prices = {1, 1, 1, 1};

    // ---- texts

    private final List<String> tokens = new ArrayList<>();
    private final List<Integer> places = new ArrayList<>();
    private int next;

    private void cutTokens(String text) {
        tokens.clear();
        places.clear();
        next = 0;
        java.util.regex.Matcher m = java.util.regex.Pattern
            .compile("[a-z]+|[0-9]+|\\.\\.|[=+\\-*;(),{}]|[ \n]+|[\\x00-\\xff]").matcher(text);
        while (m.find()) {
            if (!m.group().isBlank() || !m.group().matches("[ \n]+")) {
                tokens.add(m.group());
                places.add(m.start());
            }
        }
        tokens.add("");
        places.add(text.length());
    }

    private String peek() {
        return tokens.get(next);
    }

    private Refused fault() {
        return new Refused(-10 - places.get(next));
    }

    private String take(String pattern) {
        if (!peek().matches(pattern)) {
            throw fault();
        }
        return tokens.get(next++);
    }

    private List<Node> parseMany(List<String> around) {
        List<Node> nodes = new ArrayList<>();
        while (peek().matches("[w-z]|for|run")) {
            nodes.add(parseOne(around));
        }
        return nodes;
    }

    private Node parseOne(List<String> around) {
        Node node = new Node();
        if (peek().equals("for")) {
            if (around.size() == 4) {
                throw fault();
            }
            next++;
            node.sort = 'f';
            if (around.contains(peek())) {
                throw fault();
            }
            node.name = take("[i-m]");
            take("=");
            node.first = parseLine(around);
            take("\\.\\.");
            node.second = parseLine(around);
            take("\\{");
            List<String> inner = new ArrayList<>(around);
            inner.add(node.name);
            node.inside = parseMany(inner);
            take("\\}");
        } else if (peek().equals("run")) {
            next++;
            node.sort = 'r';
            if (!peek().matches("[0-9]{1,2}") || Integer.parseInt(peek()) >= texts.size()) {
                throw fault();
            }
            node.which = Integer.parseInt(take(".*"));
            take("\\(");
            node.first = parseLine(around);
            take(",");
            node.second = parseLine(around);
            take("\\)");
            take(";");
        } else {
            node.sort = 's';
            node.which = take("[w-z]").charAt(0) - 'w';
            if (!peek().equals(";")) {
                node.first = parseLine(around);
            }
            take(";");
        }
        return node;
    }

    private Line parseLine(List<String> around) {
        Line line = parsePart(around);
        for (int parts = 1; peek().matches("[+-]"); parts++) {
            if (parts == 8) {
                throw fault();
            }
            BigInteger sign = take("[+-]").equals("+") ? BigInteger.ONE : BigInteger.ONE.negate();
            line = line.plus(parsePart(around), sign);
        }
        return line;
    }

    private Line parsePart(List<String> around) {
        Line line = new Line();
        BigInteger factor = BigInteger.ONE;
        if (peek().matches("[0-9]{1,2}")) {
            factor = new BigInteger(take(".*"));
            if (!peek().equals("*")) {
                line.factors.put("", factor);
                return line;
            }
            next++;
        }
        if (!peek().equals("a") && !peek().equals("b") && !around.contains(peek())) {
            throw fault();
        }
        line.factors.put(take(".*"), factor);
        return line;
    }

    private int degreeOf(List<Node> nodes) {
        int most = 0;
        for (Node node : nodes) {
            int own = 0;
            if (node.sort == 'f') {
                own = node.inside.isEmpty() ? 1 : 1 + degreeOf(node.inside);
            } else if (node.sort == 'r') {
                own = texts.get(node.which).degree;
            } else if (node.first != null) {
                own = 1;
            }
            most = Math.max(most, own);
        }
        return most;
    }

    int feed(int... four) {
        if (tape.length() > 240) {
            return -6;
        }
        for (int n = 0; n < 16; n++) {
            tape.append((char) (four[n / 4] >>> (24 - 8 * (n % 4)) & 255));
        }
        return tape.length();
    }

    int cut(int n) {
        if (n < 0 || n > tape.length()) {
            return -1;
        }
        int gone = tape.length() - n;
        tape.setLength(n);
        return gone;
    }

    int read() {
        String all = tape.toString();
        tape.setLength(0);
        cutTokens(all);
        Text text = new Text();
        try {
            text.nodes = parseMany(List.of());
            if (!peek().isEmpty()) {
                throw fault();
            }
        } catch (Refused refused) {
            return refused.answer;
        }
        if (texts.size() == 8 || text.nodes.stream().mapToInt(Node::size).sum() > 40) {
            return -6;
        }
        text.degree = degreeOf(text.nodes);
        texts.add(text);
        return texts.size() - 1;
    }

    int drop() {
        if (texts.isEmpty()) {
            return -2;
        }
        texts.remove(texts.size() - 1);
        return texts.size();
    }

    // ---- RUNS

    private int turns;
    private BigInteger[] made;

    private void turn() {
        if (++turns == 20001) {
            throw new Refused(-4);
        }
    }

    private static BigInteger reckon(Line line, Map<String, BigInteger> worth) {
        BigInteger sum = BigInteger.ZERO;
        for (Map.Entry<String, BigInteger> part : line.factors.entrySet()) {
            sum = sum.add(part.getValue().multiply(worth.get(part.getKey())));
        }
        if (sum.abs().compareTo(REACH) > 0) {
            throw new Refused(-5);
        }
        return sum;
    }

    private void run(Text text, BigInteger a, BigInteger b) {
        Map<String, BigInteger> worth = new HashMap<>();
        worth.put("", BigInteger.ONE);
        worth.put("a", a);
        worth.put("b", b);
        runMany(text.nodes, worth);
    }

    private void runMany(List<Node> nodes, Map<String, BigInteger> worth) {
        for (Node node : nodes) {
            if (node.sort == 's') {
                BigInteger more = node.first == null ? BigInteger.ONE : reckon(node.first, worth);
                if (more.signum() < 0) {
                    throw new Refused(-5);
                }
                made[node.which] = made[node.which].add(more);
            } else if (node.sort == 'f') {
                BigInteger v = reckon(node.first, worth);
                BigInteger last = reckon(node.second, worth);
                for (; v.compareTo(last) <= 0; v = v.add(BigInteger.ONE)) {
                    turn();
                    worth.put(node.name, v);
                    runMany(node.inside, worth);
                }
                worth.remove(node.name);
            } else {
                turn();
                BigInteger a = reckon(node.first, worth);
                BigInteger b = reckon(node.second, worth);
                if (a.signum() < 0 || b.signum() < 0 || a.max(b).compareTo(MILLION) > 0) {
                    throw new Refused(-5);
                }
                run(texts.get(node.which), a, b);
            }
        }
    }

    private BigInteger[] countAll(Text text, int a, int b) {
        turns = 0;
        made = new BigInteger[] {BigInteger.ZERO, BigInteger.ZERO, BigInteger.ZERO, BigInteger.ZERO};
        run(text, BigInteger.valueOf(a), BigInteger.valueOf(b));
        return made;
    }

    private boolean no(int program) {
        return program < 0 || program >= texts.size();
    }

    private static boolean out(int x, int least, int most) {
        return x < least || x > most;
    }

    long count(int program, int kind, int a, int b) {
        if (no(program) || out(kind, 0, 3) || out(a, 0, 1000) || out(b, 0, 1000)) {
            return -1;
        }
        try {
            return countAll(texts.get(program), a, b)[kind].longValueExact();
        } catch (Refused refused) {
            return refused.answer;
        }
    }

    int degree(int program) {
        return no(program) ? -1 : texts.get(program).degree;
    }

    // ---- SHOWN

    private static Line number(int n) {
        Line line = new Line();
        line.factors.put("", BigInteger.valueOf(n));
        return line;
    }

    private boolean holds(Line line, List<Node> around, int a, int b) {
        Line now = line;
        for (int n = around.size() - 1; n >= 0; n--) {
            Node loop = around.get(n);
            BigInteger factor = now.of(loop.name);
            now = now.without(loop.name);
            if (factor.signum() != 0) {
                now = now.plus(factor.signum() > 0 ? loop.first : loop.second, factor);
            }
        }
        BigInteger f = now.of("a");
        BigInteger g = now.of("b");
        BigInteger all = f.multiply(BigInteger.valueOf(a)).add(g.multiply(BigInteger.valueOf(b))).add(now.of(""));
        return f.signum() >= 0 && g.signum() >= 0 && all.signum() >= 0;
    }

    private boolean allHold(List<Node> nodes, List<Node> around, int a, int b) {
        BigInteger less = BigInteger.ONE.negate();
        boolean fine = true;
        for (Node node : nodes) {
            if (node.sort == 's' && node.first != null) {
                fine &= holds(node.first, around, a, b);
            } else if (node.sort == 'f') {
                fine &= holds(node.second.plus(node.first, less).plus(number(1), BigInteger.ONE), around, a, b);
                List<Node> inner = new ArrayList<>(around);
                inner.add(node);
                fine &= allHold(node.inside, inner, a, b);
            } else if (node.sort == 'r') {
                int[] start = texts.get(node.which).start;
                fine &= start != null && holds(node.first.plus(number(start[0]), less), around, a, b)
                    && holds(node.second.plus(number(start[1]), less), around, a, b);
            }
        }
        return fine;
    }

    int judge(int program, int a, int b) {
        if (no(program) || out(a, 0, 8) || out(b, 0, 8)) {
            return -1;
        }
        Text text = texts.get(program);
        boolean fine = text.degree <= 5 && allHold(text.nodes, List.of(), a, b);
        text.start = fine ? new int[] {a, b} : null;
        text.looked = false;
        return fine ? 1 : 0;
    }

    int shown(int program, int what) {
        if (no(program) || out(what, 0, 2)) {
            return -1;
        }
        Text text = texts.get(program);
        if (what == 2) {
            return factorsOf(text) == null ? 0 : 1;
        }
        return text.start == null ? -2 : text.start[what];
    }

    // ---- FORMULAS

    private static BigInteger choose(int n, int k) {
        BigInteger c = BigInteger.ONE;
        for (int t = 0; t < k; t++) {
            c = c.multiply(BigInteger.valueOf(n - t)).divide(BigInteger.valueOf(t + 1));
        }
        return k > n ? BigInteger.ZERO : c;
    }

    private static BigInteger weight(int i, int j, int p, int q) {
        BigInteger c = choose(i, p).multiply(choose(j, q));
        return (i - p + j - q) % 2 == 0 ? c : c.negate();
    }

    private BigInteger[][][] factorsOf(Text text) {
        if (!text.looked) {
            text.factors = findFactors(text);
            text.looked = true;
        }
        return text.factors;
    }

    /** By KIND, i, j; null without FORMULAS. */
    private BigInteger[][][] findFactors(Text text) {
        if (text.start == null) {
            return null;
        }
        int d = text.degree;
        BigInteger[][][] counts = new BigInteger[d + 1][d + 1][];
        try {
            for (int i = 0; i <= d; i++) {
                for (int j = 0; i + j <= d; j++) {
                    counts[i][j] = countAll(text, text.start[0] + i, text.start[1] + j);
                }
            }
        } catch (Refused refused) {
            return null;
        }
        BigInteger[][][] factors = new BigInteger[4][d + 1][d + 1];
        for (int kind = 0; kind < 4; kind++) {
            for (int i = 0; i <= d; i++) {
                for (int j = 0; i + j <= d; j++) {
                    BigInteger sum = BigInteger.ZERO;
                    for (int p = 0; p <= i; p++) {
                        for (int q = 0; q <= j; q++) {
                            sum = sum.add(weight(i, j, p, q).multiply(counts[p][q][kind]));
                        }
                    }
                    factors[kind][i][j] = sum;
                }
            }
        }
        return factors;
    }

    private static BigInteger bounded(BigInteger x) {
        if (x.abs().compareTo(LIMIT) > 0) {
            throw new Refused(-4);
        }
        return x;
    }

    private static BigInteger value(BigInteger[][] factors, int a, int b) {
        BigInteger sum = BigInteger.ZERO;
        int d = factors.length - 1;
        for (int i = 0; i <= d; i++) {
            for (int j = 0; i + j <= d; j++) {
                sum = bounded(sum.add(bounded(factors[i][j].multiply(choose(a, i).multiply(choose(b, j))))));
            }
        }
        return sum;
    }

    private BigInteger[][] costOf(BigInteger[][][] factors) {
        int d = factors[0].length - 1;
        BigInteger[][] cost = new BigInteger[d + 1][d + 1];
        for (int i = 0; i <= d; i++) {
            for (int j = 0; i + j <= d; j++) {
                cost[i][j] = BigInteger.ZERO;
                for (int kind = 0; kind < 4; kind++) {
                    BigInteger product = bounded(factors[kind][i][j].multiply(BigInteger.valueOf(prices[kind])));
                    cost[i][j] = bounded(cost[i][j].add(product));
                }
            }
        }
        return cost;
    }

    long factor(int program, int kind, int i, int j) {
        if (no(program) || out(kind, 0, 3) || out(i, 0, 5) || out(j, 0, 5)) {
            return TOO_GREAT;
        }
        BigInteger[][][] factors = factorsOf(texts.get(program));
        if (factors == null) {
            return TOO_GREAT;
        }
        return i + j > texts.get(program).degree ? 0 : factors[kind][i][j].longValueExact();
    }

    long steps(int program, int kind, int a, int b) {
        if (no(program) || out(kind, -1, 3)) {
            return TOO_GREAT;
        }
        Text text = texts.get(program);
        BigInteger[][][] factors = factorsOf(text);
        if (factors == null || out(a, text.start[0], 1000) || out(b, text.start[1], 1000)) {
            return TOO_GREAT;
        }
        try {
            BigInteger[][] chosen = kind < 0 ? costOf(factors) : factors[kind];
            return value(chosen, a - text.start[0], b - text.start[1]).longValueExact();
        } catch (Refused refused) {
            return TOO_GREAT;
        }
    }

    int price(int kind, int p) {
        if (out(kind, 0, 3) || out(p, 0, 1000)) {
            return -1;
        }
        int was = prices[kind];
        prices[kind] = p;
        return was;
    }

    private List<BigInteger> moved(Text text, BigInteger[][][] factors, int a, int b, int d) {
        BigInteger[][] cost = costOf(factors);
        List<BigInteger> all = new ArrayList<>();
        for (int i = 0; i <= d; i++) {
            for (int j = 0; i + j <= d; j++) {
                BigInteger sum = BigInteger.ZERO;
                for (int p = 0; p <= i; p++) {
                    for (int q = 0; q <= j; q++) {
                        BigInteger there = value(cost, a + p - text.start[0], b + q - text.start[1]);
                        sum = bounded(sum.add(bounded(weight(i, j, p, q).multiply(there))));
                    }
                }
                all.add(sum);
            }
        }
        return all;
    }

    int compare(int p, int q) {
        if (no(p) || no(q)) {
            return -1;
        }
        Text left = texts.get(p);
        Text right = texts.get(q);
        BigInteger[][][] f = factorsOf(left);
        BigInteger[][][] g = factorsOf(right);
        if (f == null || g == null) {
            return -3;
        }
        int a = Math.max(left.start[0], right.start[0]);
        int b = Math.max(left.start[1], right.start[1]);
        int d = Math.max(left.degree, right.degree);
        try {
            List<BigInteger> ofP = moved(left, f, a, b, d);
            List<BigInteger> ofQ = moved(right, g, a, b, d);
            boolean pLess = false;
            boolean qLess = false;
            for (int n = 0; n < ofP.size(); n++) {
                int sign = ofP.get(n).compareTo(ofQ.get(n));
                pLess |= sign < 0;
                qLess |= sign > 0;
            }
            return !pLess && !qLess ? 0 : !pLess ? 1 : !qLess ? 2 : 3;
        } catch (Refused refused) {
            return refused.answer;
        }
    }

    int overtakes(int p, int q, int b) {
        if (no(p) || no(q) || out(b, 0, 1000)) {
            return -1;
        }
        Text left = texts.get(p);
        Text right = texts.get(q);
        BigInteger[][][] f = factorsOf(left);
        BigInteger[][][] g = factorsOf(right);
        if (f == null || g == null) {
            return -3;
        }
        if (b < Math.max(left.start[1], right.start[1])) {
            return -1;
        }
        try {
            BigInteger[][] ofP = costOf(f);
            BigInteger[][] ofQ = costOf(g);
            for (int a = Math.max(left.start[0], right.start[0]); a <= 1000; a++) {
                BigInteger x = value(ofP, a - left.start[0], b - left.start[1]);
                BigInteger y = value(ofQ, a - right.start[0], b - right.start[1]);
                if (x.compareTo(y) > 0) {
                    return a;
                }
            }
            return -2;
        } catch (Refused refused) {
            return refused.answer;
        }
    }

    int grows(int program) {
        if (no(program)) {
            return -1;
        }
        BigInteger[][][] factors = factorsOf(texts.get(program));
        if (factors == null) {
            return -3;
        }
        try {
            BigInteger[][] cost = costOf(factors);
            int most = -2;
            for (int i = 0; i < cost.length; i++) {
                for (int j = 0; i + j < cost.length; j++) {
                    most = cost[i][j].signum() == 0 ? most : Math.max(most, i + j);
                }
            }
            return most;
        } catch (Refused refused) {
            return refused.answer;
        }
    }

    int told(int what) {
        if (out(what, 0, 5)) {
            return -1;
        }
        return what == 0 ? texts.size() : what == 1 ? tape.length() : prices[what - 2];
    }
}
