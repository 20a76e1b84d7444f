import java.util.Random;

/** Texts of both languages by chance, some of them spoilt. */
final class Texts {
    private static final String[] LAW_WORDS = {"rank", "suit", "size", "crib", "deal", "mood"};
    private static final String[] LAW_KINDS = {"value", "fifteen", "pair", "run", "flush", "nob", "bars"};
    private static final String[] ORDER_WORDS = {"phase", "done", "latest", "count", "turn", "pegs 0", "pegs 1", "card 0", "card 11"};
    private static final String[] SCRAPS = {" ", ";", "(", ")", "[", "]", "+", "-", "*", "/", "%", "<", ">", "=", "if", "or", "and", "not",
        "times 3", "by", "0", "7", "1000", "1001", "00012", "x", "deal", "lay", "play", "show", "value", "bars", "rank", "count", "pegs 2",
        "card 12", "pegs", "card", "\u00e9", "A", "\t", "99999999999999999999"};
    private final Random random;

    Texts(Random random) {
        this.random = random;
    }

    private String of(String... choices) {
        return choices[random.nextInt(choices.length)];
    }

    private String blank() {
        return random.nextInt(6) == 0 ? "  " : " ";
    }

    private String part(boolean law, int depth) {
        int kind = random.nextInt(depth > 3 ? 8 : 10);
        if (kind < 4) {
            return String.valueOf(random.nextInt(5) == 0 ? random.nextInt(1001) : random.nextInt(16));
        }
        if (kind < 8) {
            return law ? of(LAW_WORDS) : random.nextInt(3) == 0 ? "card " + random.nextInt(12) : of(ORDER_WORDS);
        }
        return "[" + sum(law, depth + 1) + "]";
    }

    private String term(boolean law, int depth) {
        String text = part(law, depth);
        while (random.nextInt(4) == 0) {
            text += of("*", "/", "%", " * ", " % ") + part(law, depth);
        }
        return text;
    }

    String sum(boolean law, int depth) {
        String text = term(law, depth);
        while (random.nextInt(4) == 0) {
            text += of("+", "-", " + ", " - ") + term(law, depth);
        }
        return text;
    }

    private String plain(boolean law, int depth) {
        int kind = random.nextInt(depth > 3 ? 6 : 8);
        if (kind == 0) {
            return "not " + plain(law, depth);
        }
        if (kind < 6) {
            return sum(law, depth) + of("<", ">", "=", " = ") + sum(law, depth);
        }
        return "(" + test(law, depth + 1) + ")";
    }

    String test(boolean law, int depth) {
        String text = plain(law, depth);
        while (random.nextInt(3) == 0) {
            text += of(" and ", " or ") + plain(law, depth);
        }
        return text;
    }

    private String lawClause() {
        String kind = of(LAW_KINDS);
        String text = kind.equals("bars") ? kind : kind + blank() + sum(true, 0);
        boolean bars = kind.equals("bars");
        if (bars || random.nextInt(2) == 0) {
            text += " if " + (bars && random.nextInt(2) == 0 ? "rank = " + random.nextInt(13) : test(true, 0));
        }
        return text;
    }

    private String orderClause() {
        String text = switch (random.nextInt(9)) {
            case 0 -> "deal " + random.nextInt(1000);
            case 1 -> "deal " + sum(false, 0);
            case 2 -> "lay card 0 by 0 times 2 if phase = 1";
            case 3 -> "lay card 6 by 1 times 2 if phase = 1";
            case 4 -> "lay card " + random.nextInt(12) + " by " + random.nextInt(2);
            case 5 -> "play card " + random.nextInt(12) + " by turn";
            case 6 -> "play card " + random.nextInt(6) + " + " + "turn by turn";
            case 7 -> "show" + (random.nextInt(2) == 0 ? " if phase = 2 and turn < 0" : "");
            default -> of("play ", "lay ") + sum(false, 0) + " by " + sum(false, 0);
        };
        if (!text.contains("times") && !text.contains("if") && random.nextInt(4) == 0) {
            text += " times " + (1 + random.nextInt(4));
        }
        if (!text.contains("if") && random.nextInt(3) == 0) {
            text += " if " + test(false, 0);
        }
        return text;
    }

    private String spoil(String text) {
        int at = random.nextInt(text.length() + 1);
        return switch (random.nextInt(3)) {
            case 0 -> text.substring(0, at);
            case 1 -> text.substring(0, at) + " " + of(SCRAPS) + " " + text.substring(at);
            default -> text.substring(0, at) + of(SCRAPS) + text.substring(Math.min(text.length(), at + 1 + random.nextInt(4)));
        };
    }

    /** Orders that mostly can be, from wherever the table stands. */
    private String likely() {
        String[] clauses = {"deal " + random.nextInt(1000) + "*[1+count] if phase%3=0", "lay card " + random.nextInt(4) + " by 0 times 3 if card 4>0-1",
            "lay card " + (6 + random.nextInt(4)) + " by 1 times " + (2 + random.nextInt(3)) + " if card 10>0", "play card 0 by 0 if turn=0",
            "play card 6 by 1 if turn=1", "play card 1 by turn if turn=0", "play card 7 by turn if turn=1", "play card 2 by 0 if turn=0 and latest<9",
            "play card 8 by 1 if turn=1 or latest>40", "show if phase=2 and turn<0"};
        int from = random.nextInt(8);
        int to = from + 1 + random.nextInt(clauses.length - from);
        String text = clauses[from];
        for (int i = from + 1; i < to; i++) {
            text += ";" + clauses[i];
        }
        return text;
    }

    /** Texts at the limits of clauses, parts and brackets, and one beyond. */
    private String limit(boolean law) {
        int beyond = random.nextInt(3) - 1;
        String head = law ? "run " : "deal ";
        return switch (random.nextInt(4)) {
            case 0 -> (law ? "bars;" : "show;").repeat(11 + beyond) + (law ? "bars" : "show");
            case 1 -> head + "1+".repeat(49 + beyond) + "1";
            case 2 -> head + "[".repeat(8 + beyond) + "3" + "]".repeat(8 + beyond);
            default -> head + "1 if " + "(".repeat(5 + beyond) + "[[[2]]]=2" + ")".repeat(5 + beyond);
        };
    }

    String text(boolean law) {
        if (random.nextInt(12) == 0) {
            return limit(law);
        }
        if (!law && random.nextInt(2) == 0) {
            return likely();
        }
        String text = law ? lawClause() : orderClause();
        while (random.nextInt(4) != 0) {
            text += of(";", " ; ") + (law ? lawClause() : orderClause());
        }
        text = random.nextInt(4) == 0 ? spoil(text) : text;
        return text.length() > 400 ? text.substring(0, 400) : text;
    }
}
