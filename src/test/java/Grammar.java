import java.util.ArrayList;
import java.util.List;
import java.util.Map;

/** The two languages read into trees, for Model. */
final class Grammar {
    /** A sum or a test that is BROKEN. */
    static final class Broken extends Exception {
        private static final long serialVersionUID = 1L;
    }

    private static final class Fault extends RuntimeException {
        private static final long serialVersionUID = 1L;
    }

    /** A part of a sum or a test; a test is 1 or 0. */
    interface Tree {
        long work(Map<String, Integer> words) throws Broken;
    }

    static final class Clause {
        String kind;
        final List<Tree> sums = new ArrayList<>();
        int times = 1;
        Tree test;
    }

    private record Token(String text, int place) {
    }

    int fault = -1;
    private final boolean law;
    private final List<Token> tokens = new ArrayList<>();
    private int at;
    private int parts;
    private int open;

    Grammar(String text, boolean law) {
        this.law = law;
        int i = 0;
        while (i < text.length()) {
            if (text.charAt(i) == ' ') {
                i++;
                continue;
            }
            int to = i + 1;
            while (kindOf(text.charAt(i)) > 0 && to < text.length() && kindOf(text.charAt(to)) == kindOf(text.charAt(i))) {
                to++;
            }
            tokens.add(new Token(text.substring(i, to), i));
            i = to;
        }
        tokens.add(new Token("", text.length()));
    }

    private static int kindOf(char c) {
        return c >= 'a' && c <= 'z' ? 1 : c >= '0' && c <= '9' ? 2 : 0;
    }

    /** The clauses, or null with a fault. */
    List<Clause> read() {
        try {
            List<Clause> clauses = new ArrayList<>();
            clauses.add(clause());
            while (!next().isEmpty()) {
                want(";");
                if (clauses.size() == 12) {
                    throw new Fault();
                }
                clauses.add(clause());
            }
            return clauses;
        } catch (Fault e) {
            fault = tokens.get(at).place();
            return null;
        }
    }

    private String next() {
        return tokens.get(at).text();
    }

    private boolean take(String text) {
        if (next().equals(text)) {
            at++;
            return true;
        }
        return false;
    }

    private void want(String text) {
        if (!take(text)) {
            throw new Fault();
        }
    }

    private Clause clause() {
        Clause c = new Clause();
        c.kind = next();
        List<String> kinds = law ? List.of("value", "fifteen", "pair", "run", "flush", "nob", "bars") : List.of("deal", "lay", "play", "show");
        if (!kinds.contains(c.kind)) {
            throw new Fault();
        }
        at++;
        if (!c.kind.equals("bars") && !c.kind.equals("show")) {
            c.sums.add(sum());
        }
        if (c.kind.equals("lay") || c.kind.equals("play")) {
            want("by");
            c.sums.add(sum());
        }
        if (!law && take("times")) {
            c.times = number(1, 20);
        }
        if (take("if")) {
            c.test = test();
        }
        return c;
    }

    private boolean isNumber() {
        return !next().isEmpty() && kindOf(next().charAt(0)) == 2;
    }

    private int number(int least, int most) {
        if (!isNumber()) {
            throw new Fault();
        }
        java.math.BigInteger big = new java.math.BigInteger(next());
        if (big.bitLength() > 20 || big.intValue() < least || big.intValue() > most) {
            throw new Fault();
        }
        at++;
        return big.intValue();
    }

    private Tree test() {
        Tree left = both();
        while (take("or")) {
            Tree a = left;
            Tree b = both();
            left = w -> a.work(w) != 0 ? 1 : b.work(w);
        }
        return left;
    }

    private Tree both() {
        Tree left = plain();
        while (take("and")) {
            Tree a = left;
            Tree b = plain();
            left = w -> a.work(w) == 0 ? 0 : b.work(w);
        }
        return left;
    }

    private void open() {
        if (open == 8) {
            throw new Fault();
        }
        open++;
        at++;
    }

    private void close(String bracket) {
        want(bracket);
        open--;
    }

    private Tree plain() {
        if (take("not")) {
            Tree a = plain();
            return w -> a.work(w) == 0 ? 1 : 0;
        }
        if (next().equals("(")) {
            open();
            Tree a = test();
            close(")");
            return a;
        }
        Tree a = sum();
        String sign = next();
        if (!List.of("<", ">", "=").contains(sign)) {
            throw new Fault();
        }
        at++;
        Tree b = sum();
        return w -> {
            long x = a.work(w);
            long y = b.work(w);
            return (sign.equals("<") ? x < y : sign.equals(">") ? x > y : x == y) ? 1 : 0;
        };
    }

    private static long whole(long n) throws Broken {
        if (n > 1000000000 || n < -1000000000) {
            throw new Broken();
        }
        return n;
    }

    private Tree sum() {
        Tree left = term();
        while (next().equals("+") || next().equals("-")) {
            int sign = next().equals("+") ? 1 : -1;
            at++;
            Tree a = left;
            Tree b = term();
            left = w -> whole(a.work(w) + sign * b.work(w));
        }
        return left;
    }

    private Tree term() {
        Tree left = part();
        while (List.of("*", "/", "%").contains(next())) {
            char sign = next().charAt(0);
            at++;
            Tree a = left;
            Tree b = part();
            left = w -> joined(sign, a.work(w), b.work(w));
        }
        return left;
    }

    private static long joined(char sign, long a, long b) throws Broken {
        if (sign == '*') {
            return whole(a * b);
        }
        if (b == 0) {
            throw new Broken();
        }
        return sign == '/' ? a / b : a % b;
    }

    private Tree part() {
        if (next().equals("[")) {
            open();
            Tree a = sum();
            close("]");
            return a;
        }
        if (parts == 50) {
            throw new Fault();
        }
        parts++;
        if (isNumber()) {
            int n = number(0, 1000);
            return w -> n;
        }
        String word = next();
        List<String> words = law ? List.of("rank", "suit", "size", "crib", "deal", "mood") : List.of("phase", "done", "latest", "count", "turn", "pegs", "card");
        if (!words.contains(word)) {
            throw new Fault();
        }
        at++;
        String name = word.equals("pegs") ? word + number(0, 1) : word.equals("card") ? word + number(0, 11) : word;
        return w -> w.get(name);
    }
}
