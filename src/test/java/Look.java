import java.util.ArrayList;
import java.util.List;

/** All that a room tells, as a row of numbers: all but status() and what count() tells of refused calls. */
final class Look {
    private static final List<String> NAMES = new ArrayList<>();

    private final List<Long> row = new ArrayList<>();

    private Look() {
    }

    private void put(String name, long answer) {
        row.add(answer);
        if (row.size() > NAMES.size() && !name.isEmpty()) {
            NAMES.add(name);
        }
    }

    private long[] numbers() {
        return row.stream().mapToLong(Long::longValue).toArray();
    }

    /** The call that a number of at() answers. */
    static String name(int place) {
        return NAMES.get(place);
    }

    static long[] at(CribbageRoom x) {
        Look look = new Look();
        for (int card = 0; card < 52; card++) {
            for (int what = 0; what <= 4; what++) {
                look.put("card(" + card + ", " + what + ")", x.card(card, what));
            }
        }
        for (int player = 0; player < 2; player++) {
            for (int what = 0; what <= 8; what++) {
                look.put("hand(" + player + ", " + what + ")", x.hand(player, what));
            }
            look.put("drawn(" + player + ")", x.drawn(player));
        }
        for (int what = 0; what <= 22; what++) {
            if (what < 13 || what > 17) {
                look.put("count(" + what + ")", x.count(what));
            }
        }
        look.put("jokers()", x.jokers());
        look.put("fault()", x.fault());
        look.put("stopped()", x.stopped());
        return look.numbers();
    }

    private void table(CribbageRoom x) {
        for (int what = 0; what <= 7; what++) {
            put("", x.count(what));
        }
        for (int player = 0; player < 2; player++) {
            put("", x.hand(player, 0));
            put("", x.hand(player, 1));
            put("", x.hand(player, 7));
            put("", x.hand(player, 8));
        }
        put("", x.count(11));
        put("", x.count(19));
    }

    /** What each undo() tells, and the table behind it. */
    static long[] undone(CribbageRoom x) {
        Look look = new Look();
        for (int i = 0; i < 17; i++) {
            look.put("", x.undo());
            look.table(x);
        }
        return look.numbers();
    }

    /** What each law says of half of the cards. */
    static long[] laws(CribbageRoom x) {
        Look look = new Look();
        for (int law = 0; law < 6; law++) {
            look.put("", x.force(law));
            for (int card = law % 2; card < 52; card += 2) {
                look.put("", x.card(card, 0));
                look.put("", x.card(card, 1));
            }
        }
        return look.numbers();
    }

    static long[] paper(CribbageRoom x) {
        Look look = new Look();
        for (int what = 0; what <= 2; what++) {
            look.put("", x.kept(what));
            look.put("", x.ask(what));
            look.put("", x.toEnd(what));
            look.put("", x.bestStarter(what));
            look.put("", x.few(3, 10 + what));
            look.put("", x.byStarters(4 + what));
            look.put("", x.cribOf(what, 40));
        }
        look.put("", x.canBe());
        for (int i = 0; i < 5; i++) {
            Checks.hold(x, 4 * i, 4 * i + 5, 4 * i + 10, 40, 41, 47);
            look.put("", x.canBe());
        }
        look.put("", x.rubbers(5, 3));
        look.put("", x.drawn(0));
        return look.numbers();
    }

    /** The tape, read as cards; then a law on it and orders, so that no fault of it is left over. */
    static long[] tape(CribbageRoom x) {
        Look look = new Look();
        look.put("", x.row());
        look.put("", x.jokers());
        for (int card = 0; card < 52; card++) {
            look.put("", x.card(card, 4));
        }
        look.put("", Checks.law(x, "value 9; bars if 1 = 1"));
        look.put("", x.card(0, 0));
        look.put("", Checks.orders(x, "show if 1 = 2"));
        return look.numbers();
    }

    /** The deal to its end, by the lowest card that can be laid or played. */
    static long[] playedOn(CribbageRoom x) {
        Look look = new Look();
        look.put("", x.deal(77));
        for (int i = 0; i < 4; i++) {
            look.put("", x.lay(x.hand(i % 2, 1), i % 2));
        }
        for (int i = 0; i < 8 && x.count(6) >= 0; i++) {
            int turn = x.count(6);
            int answer = -3;
            for (int k = 1; k <= 4 && answer < 0; k++) {
                answer = x.play(x.hand(turn, k), turn);
            }
            look.put("", answer);
        }
        look.put("", x.show());
        look.table(x);
        return look.numbers();
    }
}
