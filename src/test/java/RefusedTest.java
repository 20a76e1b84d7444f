/**
 * Calls that are REFUSED: their number, status() and count() behind them, and that all else stands as it was;
 * and calls that change nothing, whatever they are asked. Each in rooms of every phase.
 */
public final class RefusedTest {
    private static final int LEAST = Integer.MIN_VALUE;
    private static final int MOST = Integer.MAX_VALUE;

    public static void main(String[] args) {
        for (String room : Rooms.NAMES) {
            badNumbers(room);
            noSuchLaw(room);
            asked(room);
            askedOfOthers(room);
        }
        noSuchImage();
        badDeals();
        badLays();
        badPlays();
        badShows();
        badUndo();
        badHolds();
        badSeens();
        badRows();
        badLaws();
        badOrders();
        ordersThatCantBe();
        whichIsFirst();
        Checks.end("RefusedTest");
    }

    private static void refused(String room, String call, Twins.Deed deed, int code, String... changed) {
        Twins.refused(room, () -> Rooms.named(room), call, deed, code, changed);
    }

    // ---- -1: a number that can't be, in whatever state ----

    private static void badNumbers(String room) {
        int[][] terms = {{-1, 5}, {4, 5}, {0, -1}, {0, 1000}, {1, -1}, {1, 11}, {2, -1}, {2, 10}, {3, 4}, {3, 32}, {LEAST, 5}, {MOST, 5}, {0, LEAST},
            {3, MOST}};
        for (int[] n : terms) {
            refused(room, "terms(" + n[0] + ", " + n[1] + ")", x -> x.terms(n[0], n[1]), -1);
        }
        for (int seed : new int[] {-1, 1000001, LEAST, MOST}) {
            refused(room, "deal(" + seed + ")", x -> x.deal(seed), -1);
        }
        for (int[] n : new int[][] {{-1, 0}, {52, 0}, {7, -1}, {7, 2}, {24, -1}, {24, 2}, {LEAST, MOST}, {MOST, LEAST}}) {
            refused(room, "lay(" + n[0] + ", " + n[1] + ")", x -> x.lay(n[0], n[1]), -1);
            refused(room, "play(" + n[0] + ", " + n[1] + ")", x -> x.play(n[0], n[1]), -1);
        }
        for (int card : new int[] {-1, 52, LEAST, MOST}) {
            refused(room, "hold(" + card + ")", x -> x.hold(card), -1);
        }
        for (int[] n : new int[][] {{-1, 0}, {52, 0}, {0, -1}, {0, 1000}, {LEAST, MOST}}) {
            refused(room, "seen(" + n[0] + ", " + n[1] + ")", x -> x.seen(n[0], n[1]), -1);
        }
        for (int[] n : new int[][] {{-1, 1}, {1000001, 1}, {5, 0}, {5, 21}, {LEAST, 1}, {5, LEAST}, {MOST, MOST}}) {
            refused(room, "rubbers(" + n[0] + ", " + n[1] + ")", x -> x.rubbers(n[0], n[1]), -1);
        }
        for (int k : new int[] {-1, 2, LEAST, MOST}) {
            refused(room, "image(" + k + ")", x -> x.image(k), -1);
            refused(room, "back(" + k + ")", x -> x.back(k), -1);
        }
    }

    // ---- -2: there is no such LAW, IMAGE ----

    private static void noSuchLaw(String room) {
        int laws = Rooms.named(room).count(10);
        for (int law : new int[] {-2, laws, 6, LEAST, MOST}) {
            refused(room, "force(" + law + ")", x -> x.force(law), -2);
        }
    }

    private static void noSuchImage() {
        for (String room : new String[] {"a new room", "dealt", "laid", "played", "shown"}) {
            refused(room, "back(0)", x -> x.back(0), -2);
            refused(room, "back(1)", x -> x.back(1), -2);
        }
        refused("in play", "back(1)", x -> x.back(1), -2);
    }

    // ---- -3: it can't be by what stands ----

    private static void badDeals() {
        for (String room : new String[] {"dealt", "half laid", "laid", "in play", "32 ahead", "played", "a full room"}) {
            refused(room, "deal(0)", x -> x.deal(0), -3);
            refused(room, "deal(1000000)", x -> x.deal(1000000), -3);
        }
        Twins.Maker lastDeal = () -> {
            CribbageRoom x = Rooms.shown();
            x.terms(0, 999);
            return x;
        };
        Twins.refused("DEAL 999, all shown", lastDeal, "deal(5)", x -> x.deal(5), -3);
        Twins.Maker lastFirst = () -> {
            CribbageRoom x = new CribbageRoom();
            x.terms(0, 999);
            return x;
        };
        Twins.refused("DEAL 999, nothing dealt", lastFirst, "deal(0)", x -> x.deal(0), -3);
    }

    private static void badLays() {
        for (String room : new String[] {"a new room", "laid", "in play", "played", "shown"}) {
            for (int[] n : new int[][] {{0, 0}, {7, 0}, {9, 1}, {51, 1}}) {
                refused(room, "lay(" + n[0] + ", " + n[1] + ")", x -> x.lay(n[0], n[1]), -3);
            }
        }
        // The other one's card, the starter, one that nobody has.
        for (int[] n : new int[][] {{9, 0}, {7, 1}, {14, 0}, {14, 1}, {1, 0}, {51, 1}}) {
            refused("dealt", "lay(" + n[0] + ", " + n[1] + ")", x -> x.lay(n[0], n[1]), -3);
        }
        // In the crib already; a hand of four has no more to lay.
        for (int[] n : new int[][] {{45, 1}, {46, 1}, {45, 0}, {9, 1}, {15, 1}, {23, 1}, {24, 1}, {9, 0}}) {
            refused("half laid", "lay(" + n[0] + ", " + n[1] + ")", x -> x.lay(n[0], n[1]), -3);
        }
    }

    private static void badPlays() {
        for (String room : new String[] {"a new room", "dealt", "half laid", "played", "shown"}) {
            for (int[] n : new int[][] {{0, 0}, {7, 0}, {9, 1}, {24, 1}, {51, 1}}) {
                refused(room, "play(" + n[0] + ", " + n[1] + ")", x -> x.play(n[0], n[1]), -3);
            }
        }
        // It is 1's turn: not 0's; 0's card, one of the crib, the starter, nobody's.
        for (int[] n : new int[][] {{7, 0}, {24, 0}, {7, 1}, {45, 1}, {14, 1}, {1, 1}}) {
            refused("laid", "play(" + n[0] + ", " + n[1] + ")", x -> x.play(n[0], n[1]), -3);
        }
        // It is 0's turn: 13 is played; 1's are 1's, and 1 has no turn.
        for (int[] n : new int[][] {{13, 0}, {24, 0}, {9, 0}, {9, 1}, {24, 1}, {21, 0}, {14, 0}}) {
            refused("in play", "play(" + n[0] + ", " + n[1] + ")", x -> x.play(n[0], n[1]), -3);
        }
        // 16 and 16 are 32.
        for (int card : new int[] {8, 10, 13}) {
            refused("32 ahead", "play(" + card + ", 0)", x -> x.play(card, 0), -3);
        }
        Twins.Maker barred = () -> {
            CribbageRoom x = Checks.laid();
            Checks.rule(x, "bars if rank = 6");
            return x;
        };
        Twins.refused("24 barred", barred, "play(24, 1)", x -> x.play(24, 1), -3);
    }

    private static void badShows() {
        for (String room : new String[] {"a new room", "dealt", "half laid", "laid", "in play", "32 ahead", "shown", "a full room"}) {
            refused(room, "show()", CribbageRoom::show, -3);
        }
        // A law told since bars all: whose turn it is can play nothing, but it is a turn.
        Twins.Maker barred = () -> {
            CribbageRoom x = Rooms.inPlay();
            Checks.rule(x, "bars");
            return x;
        };
        Twins.refused("all barred since", barred, "show()", CribbageRoom::show, -3);
        Twins.refused("all barred since", barred, "play(7, 0)", x -> x.play(7, 0), -3);
    }

    private static void badUndo() {
        refused("a new room", "undo()", CribbageRoom::undo, -3);
        Twins.Maker behindTerms = () -> {
            CribbageRoom x = Rooms.inPlay();
            x.terms(1, 1);
            return x;
        };
        Twins.refused("behind terms()", behindTerms, "undo()", CribbageRoom::undo, -3);
        Twins.Maker behindBack = () -> {
            CribbageRoom x = Rooms.inPlay();
            x.back(0);
            return x;
        };
        Twins.refused("behind back()", behindBack, "undo()", CribbageRoom::undo, -3);
        Twins.Maker allUndone = () -> {
            CribbageRoom x = Rooms.halfLaid();
            x.undo();
            x.undo();
            x.undo();
            return x;
        };
        Twins.refused("all undone", allUndone, "undo()", CribbageRoom::undo, -3);
    }

    private static void badHolds() {
        refused("in play", "hold(9)", x -> x.hold(9), -3);
        refused("in play", "hold(30)", x -> x.hold(30), -3);
        for (int card : new int[] {9, 15, 23, 24, 30, 31}) {
            refused("shown", "hold(" + card + ")", x -> x.hold(card), -3);
        }
        for (int card : new int[] {0, 8, 10, 51}) {
            refused("shown", "hold(" + card + ")", x -> x.hold(card), -5);
        }
        refused("a full room", "hold(51)", x -> x.hold(51), -5);
        refused("a full room", "hold(48)", x -> x.hold(48), -3);
    }

    // ---- -5: no room ----

    private static void badSeens() {
        refused("a full room", "seen(20, 3)", x -> x.seen(20, 3), -5);
        refused("a full room", "seen(0, 0)", x -> x.seen(0, 0), -5);
        refused("a full room", "seen(51, 999)", x -> x.seen(51, 999), -5);
    }

    // ---- -6: a TEXT, a ROW that can't be ----

    private static void badRows() {
        for (String room : Rooms.NAMES) {
            if (!room.equals("a full room")) {
                refused(room, "row()", CribbageRoom::row, -6);
            }
        }
        Twins.Maker emptied = () -> {
            CribbageRoom x = Rooms.full();
            x.end(0);
            return x;
        };
        Twins.refused("a full room, the tape empty", emptied, "row()", CribbageRoom::row, -6);
    }

    private static final String[] BAD_LAWS = {"", " ", "value", "value 1001", "bars if", "bars;", "lay 1 by 1"};

    private static void badLaws() {
        for (String room : new String[] {"a new room", "dealt", "in play", "shown"}) {
            for (String text : BAD_LAWS) {
                refused(room, "law() of '" + text + "'", x -> Checks.law(x, text), -6, "fault()");
            }
            Twins.Maker written = () -> {
                CribbageRoom x = Rooms.named(room);
                Checks.write(x, "value ?");
                return x;
            };
            Twins.refused(room, written, "law() of what is on the tape", CribbageRoom::law, -6, "fault()", "count(12)");
        }
        // Six laws: whatever is on the tape, it is empty then, and no text was read.
        refused("a full room", "law()", CribbageRoom::law, -5, "count(12)");
        for (String text : new String[] {"", "bars", "bars ?", "   "}) {
            Twins.Maker six = () -> {
                CribbageRoom x = Rooms.full();
                x.end(0);
                Checks.write(x, text);
                return x;
            };
            Twins.refused("six laws, '" + text + "'", six, "law()", CribbageRoom::law, -5, "count(12)");
        }
    }

    private static void badOrders() {
        for (String room : new String[] {"a new room", "laid", "in play", "played", "shown"}) {
            for (String text : new String[] {"", "  ", "lay", "show times 0", "show times 21", "bars", "show;"}) {
                refused(room, "orders() of '" + text + "'", x -> Checks.orders(x, text), -6, "fault()");
            }
        }
        refused("a full room", "orders()", CribbageRoom::orders, -6, "fault()", "stopped()", "count(12)");
    }

    private static void ordersThatCantBe() {
        String[] texts = {"deal 5; lay 45 by 1; lay 45 by 1", "deal 1000*1000+1", "deal 0 - 1", "deal 1/0", "deal 5; play 0 by 0", "deal 5; show",
            "deal 5; deal 5", "show", "lay 0 by 0", "lay 52 by 0", "lay 0 by 2", "play 0-1 by 0", "play 0 by 0%0"};
        for (String text : texts) {
            refused("a new room", "orders() of '" + text + "'", x -> Checks.orders(x, text), -3, "stopped()", "fault()");
        }
        // All but the last of these can be, and change much.
        String[] onward = {"lay 0 by 0; lay 21 by 0; play 24 by 1; play 13 by 0; play 15 by 1; play 1 by 0", "lay 0 by 0 times 3", "lay 0 by 0; lay 21 by 0; show"};
        for (String text : onward) {
            refused("half laid", "orders() of '" + text + "'", x -> Checks.orders(x, text), -3, "stopped()", "fault()");
        }
        refused("played", "orders() of a show, a deal, too much", x -> Checks.orders(x, "show; deal 7; lay card 0 by 0 times 3"), -3, "stopped()", "fault()");
        Twins.Maker sixteen = () -> {
            CribbageRoom x = Rooms.shown();
            Checks.orders(x, "deal 9; lay card 0 by 0 times 2");
            return x;
        };
        Twins.refused("sixteen to be undone", sixteen, "orders()", x -> Checks.orders(x, "lay card 6 by 1 times 2; show"), -3, "stopped()", "fault()");
        // 26 would be run ahead of the last, more than can be undone.
        Twins.Maker barred = () -> {
            CribbageRoom x = Rooms.shown();
            Checks.rule(x, "bars");
            return x;
        };
        String deal = "deal 9; lay card 0 by 0 times 2; lay card 6 by 1 times 2; show; ";
        Twins.refused("shown", barred, "orders() of two deals", x -> Checks.orders(x, deal + deal + deal.substring(0, deal.indexOf(" show")) + "lay 0 by 0"), -3,
            "stopped()", "fault()");
    }

    // ---- The first of these in that order ----

    private static void whichIsFirst() {
        refused("in play", "deal(-1) where no deal can be", x -> x.deal(-1), -1);
        refused("a new room", "lay(52, 0) where nothing is dealt", x -> x.lay(52, 0), -1);
        refused("a new room", "play(0, 2) where nothing is dealt", x -> x.play(0, 2), -1);
        refused("shown", "hold(52) where six are held", x -> x.hold(52), -1);
        refused("shown", "hold(9), held, where six are", x -> x.hold(9), -3);
        refused("a full room", "seen(52, 0) where six were", x -> x.seen(52, 0), -1);
        refused("a full room", "seen(0, 1000) where six were", x -> x.seen(0, 1000), -1);
        refused("a new room", "back(2) where none was kept", x -> x.back(2), -1);
        Twins.Maker badText = () -> {
            CribbageRoom x = Rooms.full();
            x.end(0);
            Checks.write(x, "value");
            return x;
        };
        Twins.refused("six laws", badText, "law() of a text that can't be", CribbageRoom::law, -5, "count(12)");
        Twins.Maker lastDeal = () -> {
            CribbageRoom x = new CribbageRoom();
            x.terms(0, 999);
            return x;
        };
        Twins.refused("DEAL 999", lastDeal, "deal(1000001)", x -> x.deal(1000001), -1);
    }

    // ---- What is asked changes nothing ----

    private static void nothing(String room, String call, Twins.Deed deed) {
        Twins.changesNothing(room, () -> Rooms.named(room), call, deed);
    }

    private static void asked(String room) {
        nothing(room, "card()", x -> x.card(24, 0) + x.card(24, 1) + x.card(24, 2) + x.card(24, 3) + x.card(24, 4));
        nothing(room, "hand()", x -> x.hand(0, 0) + x.hand(1, 1) + x.hand(0, 7) + x.hand(1, 8));
        nothing(room, "jokers(), fault(), stopped()", x -> x.jokers() + x.fault() + x.stopped());
        nothing(room, "counted()", x -> x.counted(14, 0, 0) + x.counted(14, 1, 1));
        nothing(room, "kept()", x -> x.kept(0) + x.kept(1) + x.kept(2));
        nothing(room, "cribOf()", x -> x.cribOf(0, 44));
        nothing(room, "byStarters()", x -> x.byStarters(0) + x.byStarters(999));
        nothing(room, "bestStarter()", x -> x.bestStarter(0) + x.bestStarter(1));
        nothing(room, "toEnd()", x -> x.toEnd(0) + x.toEnd(1));
        nothing(room, "canBe(), ask()", x -> x.canBe() + x.ask(0) + x.ask(1));
        nothing(room, "few()", x -> x.few(1, 0) + x.few(20, 99));
        nothing(room, "compare()", x -> x.compare(-1, 14) + x.compare(0, 14) + x.compare(1, 14));
        nothing(room, "drawn()", x -> x.drawn(0) + x.drawn(1));
        nothing(room, "count(), status()", x -> x.count(0) + x.count(13) + x.count(22) + x.status());
        nothing(room, "end() of all", x -> x.end(x.count(12)));
    }

    private static void askedOfOthers(String room) {
        nothing(room, "card() of others", x -> x.card(-1, 0) + x.card(52, 0) + x.card(0, -1) + x.card(0, 5) + x.card(LEAST, MOST));
        nothing(room, "hand() of others", x -> x.hand(-1, 0) + x.hand(2, 0) + x.hand(0, -1) + x.hand(0, 9) + x.hand(MOST, LEAST));
        nothing(room, "end() of others", x -> x.end(-1) + x.end(401) + x.end(x.count(12) + 1) + x.end(LEAST) + x.end(MOST));
        nothing(room, "counted() of others", x -> x.counted(-1, 0, 0) + x.counted(52, 0, 0) + x.counted(14, 2, 0) + x.counted(14, -1, 0)
            + x.counted(14, 0, 6) + x.counted(14, 0, -1) + x.counted(LEAST, MOST, LEAST));
        nothing(room, "kept() of others", x -> x.kept(-1) + x.kept(3) + x.kept(LEAST) + x.kept(MOST));
        nothing(room, "cribOf() of others", x -> x.cribOf(0, 0) + x.cribOf(-1, 0) + x.cribOf(0, 52) + x.cribOf(LEAST, MOST));
        nothing(room, "byStarters() of others", x -> x.byStarters(-1) + x.byStarters(1000) + x.byStarters(LEAST) + x.byStarters(MOST));
        nothing(room, "bestStarter() of others", x -> x.bestStarter(-1) + x.bestStarter(2));
        nothing(room, "toEnd() of others", x -> x.toEnd(-1) + x.toEnd(2) + x.toEnd(LEAST));
        nothing(room, "ask() of others", x -> x.ask(-1) + x.ask(2));
        nothing(room, "few() of others", x -> x.few(0, 0) + x.few(21, 0) + x.few(1, -1) + x.few(1, 100) + x.few(LEAST, MOST));
        nothing(room, "compare() of others", x -> x.compare(-2, 14) + x.compare(6, 14) + x.compare(-1, 52) + x.compare(MOST, LEAST));
        nothing(room, "drawn() of others", x -> x.drawn(-1) + x.drawn(2));
        nothing(room, "count() of others", x -> x.count(-1) + x.count(23) + x.count(LEAST) + x.count(MOST));
        if (room.equals("a full room")) {
            nothing(room, "feed() of 400", x -> x.feed(1, 2, 3, 4, 5));
        }
    }
}
