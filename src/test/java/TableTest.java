/** Promises 1 to 4 and 14 to 18: the table. */
public final class TableTest {
    public static void main(String[] args) {
        promise1NewObject();
        promise2Card();
        promise3Hand();
        promise4Terms();
        promise14Deal();
        promise15Lay();
        promise16Play();
        promise16PlayByLaw();
        promise16Barred();
        promise17Show();
        promise17MostPegs();
        promise18Undo();
        promise18UndoLeaves();
        Checks.end("TableTest");
    }

    private static final int[] PONE_PLAYS = {24, 15, 9, 23};
    private static final int[] DEALER_PLAYS = {13, 8, 10, 7};

    private static void playAll(CribbageRoom x) {
        for (int i = 0; i < 4; i++) {
            x.play(PONE_PLAYS[i], 1);
            x.play(DEALER_PLAYS[i], 0);
        }
    }

    private static void promise1NewObject() {
        CribbageRoom x = new CribbageRoom();
        int[] counts = {0, 1, -1, 0, 0, 0, -1, -1, 0, 0, 0, 0, 0, 0, 0, 0, 0, 0, -1, 0, 1, 0, 15};
        for (int what = 0; what < counts.length; what++) {
            Checks.due("new: count(" + what + ")", x.count(what), counts[what]);
        }
        for (int card = 0; card < 52; card++) {
            Checks.due("new: place of " + card, x.card(card, 2), -1);
            Checks.due("new: " + card + " held", x.card(card, 4), 0);
        }
        Checks.due("new: hand 0", x.hand(0, 0), 0);
        Checks.due("new: pegs 1", x.hand(1, 7), 0);
        Checks.due("new: status", x.status(), 0);
        Checks.due("new: fault", x.fault(), -1);
        Checks.due("new: stopped", x.stopped(), -1);
        Checks.due("new: jokers", x.jokers(), 0);
        Checks.due("new: drawn", x.drawn(0), -1);
        Checks.due("new: back(0)", x.back(0), -2);
        Checks.due("NONE", CribbageRoom.NONE, -1);
    }

    private static void promise2Card() {
        CribbageRoom x = Checks.laid();
        Checks.due("value of an ace", x.card(3, 0), 1);
        Checks.due("value of a ten", x.card(36, 0), 10);
        Checks.due("value of a king", x.card(51, 0), 10);
        Checks.due("not barred", x.card(0, 1), 0);
        Checks.due("in hand 0", x.card(7, 2), 0);
        Checks.due("in hand 1", x.card(9, 2), 1);
        Checks.due("in the crib", x.card(45, 2), 2);
        Checks.due("the starter", x.card(14, 2), 3);
        Checks.due("nowhere", x.card(1, 2), -1);
        Checks.due("not played", x.card(24, 3), 0);
        x.play(24, 1);
        Checks.due("played", x.card(24, 3), 1);
        Checks.due("played is in the hand", x.card(24, 2), 1);
        x.hold(30);
        Checks.due("held", x.card(30, 4), 1);
        for (int[] bad : new int[][] {{-1, 0}, {52, 0}, {0, -1}, {0, 5}, {Integer.MIN_VALUE, 2}, {Integer.MAX_VALUE, 4}}) {
            Checks.due("card(" + bad[0] + ", " + bad[1] + ")", x.card(bad[0], bad[1]), -1);
        }
        Checks.rule(x, "value 12 if rank = 10; value 40 if rank = 11; value 0 - 5 if rank = 12; value 7 / suit if rank = 0; bars if suit = 2");
        Checks.due("value as told", x.card(41, 0), 12);
        Checks.due("value above the most", x.card(45, 0), 31);
        Checks.due("value below the least", x.card(49, 0), 1);
        Checks.due("value broken", x.card(0, 0), 1);
        Checks.due("value by suit", x.card(2, 0), 3);
        Checks.due("barred", x.card(2, 1), 1);
        Checks.due("other suit", x.card(3, 1), 0);
        Checks.rule(x, "value size + 20; value crib + 3 if crib = 0 - 1; value deal if rank = 5; value 9 / 0");
        Checks.due("the last that holds", x.card(0, 0), 2);
        Checks.due("by the deal", x.card(20, 0), 1);
    }

    private static void promise3Hand() {
        CribbageRoom x = Checks.dealt();
        int[] cards = {0, 7, 8, 10, 13, 21};
        for (int k = 0; k < 6; k++) {
            Checks.due("card " + k + " of hand 0", x.hand(0, 1 + k), cards[k]);
        }
        Checks.due("six", x.hand(1, 0), 6);
        Checks.layAll(x);
        Checks.due("four", x.hand(1, 0), 4);
        Checks.due("no fifth", x.hand(1, 5), -1);
        x.play(24, 1);
        Checks.due("still four", x.hand(1, 0), 4);
        Checks.due("three not played", x.hand(1, 8), 3);
        Checks.due("pegs", x.hand(1, 7), 0);
        for (int[] bad : new int[][] {{-1, 0}, {2, 0}, {0, -1}, {0, 9}, {Integer.MAX_VALUE, 1}, {0, Integer.MIN_VALUE}}) {
            Checks.due("hand(" + bad[0] + ", " + bad[1] + ")", x.hand(bad[0], bad[1]), -1);
        }
    }

    private static void promise4Terms() {
        CribbageRoom x = new CribbageRoom();
        int[] least = {0, 0, 0, 5};
        int[] most = {999, 10, 9, 31};
        int[] first = {0, 1, 0, 15};
        for (int what = 0; what < 4; what++) {
            Checks.due("terms below", x.terms(what, least[what] - 1), -1);
            Checks.due("terms above", x.terms(what, most[what] + 1), -1);
            Checks.due("status", x.status(), -1);
            Checks.due("terms most", x.terms(what, most[what]), first[what]);
            Checks.due("status", x.status(), 0);
            Checks.due("terms least", x.terms(what, least[what]), most[what]);
            Checks.due("it stands", x.count(19 + what), least[what]);
        }
        Checks.due("terms(4, 5)", x.terms(4, 5), -1);
        Checks.due("terms(-1, 5)", x.terms(-1, 5), -1);
        Checks.due("refused by -1", x.count(13), 10);
        x.deal(5);
        x.terms(3, 4);
        Checks.due("refused terms leave what can be undone", x.count(11), 1);
        x.terms(3, 15);
        Checks.due("terms end what can be undone", x.undo(), -3);
    }

    private static void promise14Deal() {
        CribbageRoom x = new CribbageRoom();
        Checks.due("deal(-1)", x.deal(-1), -1);
        Checks.due("deal(1000001)", x.deal(1000001), -1);
        Checks.due("the dealer is as ahead", x.count(1), 1);
        Checks.due("deal(5)", x.deal(5), 14);
        Checks.due("dealer", x.count(1), 0);
        Checks.due("phase", x.count(0), 1);
        Checks.due("deal", x.count(19), 1);
        Checks.due("turn", x.count(6), -1);
        Checks.due("deal in phase 1", x.deal(5), -3);
        Checks.due("a bad seed is refused first", x.deal(-1), -1);
        Checks.layAll(x);
        Checks.due("deal in phase 2", x.deal(5), -3);
        playAll(x);
        Checks.due("LAST stays", x.count(7), 0);
        x.show();
        int pegs = x.hand(0, 7);
        Checks.due("deal in phase 3", x.deal(0) >= 0 ? 1 : 0, 1);
        Checks.due("the other deals", x.count(1), 1);
        Checks.due("pegs stay", x.hand(0, 7), pegs);
        Checks.due("crib is empty", x.count(3), 0);
        Checks.due("nobody is LAST", x.count(7), -1);
        Checks.due("nothing is played", x.card(24, 3), 0);
        Checks.due("deal", x.count(19), 2);
        CribbageRoom y = new CribbageRoom();
        Checks.due("deal(1000000)", y.deal(1000000) >= 0 ? 1 : 0, 1);
        CribbageRoom z = new CribbageRoom();
        z.terms(0, 999);
        Checks.due("at 999", z.deal(5), -3);
        z.terms(0, 998);
        Checks.due("at 998", z.deal(5), 14);
        // Seed 0: s is 12345 first; 12345 modulo 52 is 21, PONE's (1's) first card.
        CribbageRoom first = new CribbageRoom();
        first.deal(0);
        Checks.due("the first draw", first.card(21, 2), 1);
    }

    private static void promise15Lay() {
        CribbageRoom x = new CribbageRoom();
        Checks.due("lay in phase 0", x.lay(0, 0), -3);
        x.deal(5);
        Checks.due("lay(-1, 0)", x.lay(-1, 0), -1);
        Checks.due("lay(52, 0)", x.lay(52, 0), -1);
        Checks.due("lay(0, -1)", x.lay(0, -1), -1);
        Checks.due("lay(0, 2)", x.lay(0, 2), -1);
        Checks.due("the other one's card", x.lay(9, 0), -3);
        Checks.due("nobody's card", x.lay(1, 0), -3);
        Checks.due("lay(45, 1)", x.lay(45, 1), 1);
        Checks.due("laid already", x.lay(45, 1), -3);
        Checks.due("lay(46, 1)", x.lay(46, 1), 2);
        Checks.due("a third", x.lay(9, 1), -3);
        Checks.due("phase", x.count(0), 1);
        Checks.due("lay(0, 0)", x.lay(0, 0), 3);
        Checks.due("lay(21, 0)", x.lay(21, 0), 4);
        Checks.due("phase", x.count(0), 2);
        Checks.due("PONE's turn", x.count(6), 1);
        Checks.due("lay in phase 2", x.lay(7, 0), -3);
        heels();
        CribbageRoom barredPone = Checks.dealt();
        Checks.rule(barredPone, "bars if rank = 2 or rank = 3 or rank = 5 or rank = 6");
        Checks.layAll(barredPone);
        Checks.due("all of PONE's are barred: DEALER's turn", barredPone.count(6), 0);
    }

    /** A jack as starter: the dealer has 2 more. */
    private static void heels() {
        for (int seed = 0; seed < 400; seed++) {
            CribbageRoom x = new CribbageRoom();
            if (x.deal(seed) / 4 != 10) {
                continue;
            }
            for (int i = 0; i < 4; i++) {
                Checks.due("no pegs yet", x.hand(0, 7), 0);
                x.lay(x.hand(i % 2, 1), i % 2);
            }
            Checks.due("seed " + seed + ": the dealer has 2", x.hand(0, 7), 2);
            Checks.due("seed " + seed + ": PONE has none", x.hand(1, 7), 0);
            return;
        }
        Checks.isSo("a jack as starter among 400 deals", false);
    }

    private static void promise16Play() {
        CribbageRoom x = Checks.laid();
        Checks.due("play(-1, 1)", x.play(-1, 1), -1);
        Checks.due("play(52, 1)", x.play(52, 1), -1);
        Checks.due("play(24, 2)", x.play(24, 2), -1);
        Checks.due("out of turn", x.play(13, 0), -3);
        Checks.due("not its card", x.play(13, 1), -3);
        Checks.due("play(24, 1)", x.play(24, 1), 0);
        Checks.due("twice", x.play(24, 1), -3);
        Checks.due("play(13, 0)", x.play(13, 0), 0);
        Checks.due("a pair and fifteen", x.play(15, 1), 4);
        Checks.due("play(8, 0)", x.play(8, 0), 0);
        Checks.due("a pair of threes", x.play(9, 1), 2);
        Checks.due("three of them", x.play(10, 0), 6);
        Checks.due("the last of it", x.play(23, 1), 1);
        Checks.due("count is 0", x.count(4), 0);
        Checks.due("the line is empty", x.count(5), 0);
        Checks.due("LAST", x.count(7), 1);
        Checks.due("the other one's turn", x.count(6), 0);
        Checks.due("the last of all", x.play(7, 0), 1);
        Checks.due("nobody's turn", x.count(6), -1);
        Checks.due("pegs", x.hand(0, 7), 7);
        CribbageRoom y = new CribbageRoom();
        Checks.due("play in phase 0", y.play(0, 0), -3);
    }

    private static void promise16PlayByLaw() {
        CribbageRoom x = Checks.laid();
        // 24, 13, 15: count is 7 and 4 and 4; by these rules 15 + size 3 counts 30 + crib, a pair of fours 50.
        Checks.rule(x, "fifteen size * 10 + crib; pair rank + 47 + size - 2 if crib = 0 - 1; pair 1 if crib > 0 - 1; run size * 20 + rank");
        x.play(24, 1);
        x.play(13, 0);
        Checks.due("fifteen of three and a pair by the law", x.play(15, 1), 29 + 50);
        CribbageRoom run = Checks.laid();
        Checks.rule(run, "run size * 20 + rank");
        // 9, 13 and 7 are a three, a four and a two.
        run.play(9, 1);
        run.play(13, 0);
        run.play(24, 1);
        Checks.due("no run by 3 4 7 2", run.play(7, 0), 0);
        CribbageRoom order = Checks.laid();
        Checks.rule(order, "run size * 20 + rank");
        order.play(15, 1);
        order.play(7, 0);
        Checks.due("a run of 4 2 3", order.play(9, 1), 59);
        Checks.due("2 3 3 is none, the pair is", order.play(8, 0), 2);
        order.undo();
        Checks.rule(order, "pair rank * 10 + crib + suit");
        Checks.due("a pair of rank 2", order.play(8, 0), 18);
        CribbageRoom target = Checks.laid();
        target.terms(3, 11);
        target.play(24, 1);
        Checks.due("TARGET is 11", target.play(13, 0), 2);
        CribbageRoom thirtyOne = Checks.laid();
        Checks.rule(thirtyOne, "value 31; fifteen 50");
        Checks.due("31 at once, no more for LAST", thirtyOne.play(24, 1), 2);
        Checks.due("count is 0", thirtyOne.count(4), 0);
        thirtyOne.terms(3, 31);
        Checks.due("31 is TARGET, too", thirtyOne.play(13, 0), 52);
    }

    private static void promise16Barred() {
        CribbageRoom x = Checks.laid();
        Checks.due("a turn", x.count(6), 1);
        Checks.rule(x, "bars if rank = 6");
        Checks.due("a barred card", x.play(24, 1), -3);
        Checks.due("another one", x.play(23, 1), 0);
        Checks.rule(x, "value 20; bars if rank = 3");
        Checks.due("above 31 is not", x.play(13, 0), -3);
        Checks.due("26 it is, then neither can", x.play(8, 0), 1);
        Checks.due("count", x.count(4), 0);
        Checks.due("turn", x.count(6), 1);
        Checks.rule(x, "bars");
        Checks.due("all are barred", x.play(9, 1), -3);
        Checks.due("but it is a turn still", x.count(6), 1);
        Checks.due("so it is not shown", x.show(), -3);
    }

    private static void promise17Show() {
        CribbageRoom x = new CribbageRoom();
        Checks.due("show in phase 0", x.show(), -3);
        x.deal(5);
        Checks.due("show in phase 1", x.show(), -3);
        Checks.layAll(x);
        Checks.due("show in a turn", x.show(), -3);
        playAll(x);
        // 9 15 23 24 with 14: a pair, 3 4 4 6 7: 4+4+7 15 = 4; 7 8 10 13 with 14 is 2 3 3 4 4: four runs and two pairs 16.
        // The crib: 0 21 45 46 with 14: 1 6 Q Q 4, 1+4+10 twice: 4 and a pair.
        Checks.due("show()", x.show(), 26);
        Checks.due("PONE", x.hand(1, 7), 7 + 4);
        Checks.due("DEALER", x.hand(0, 7), 7 + 16 + 6);
        Checks.due("phase", x.count(0), 3);
        Checks.due("again", x.show(), -3);
        CribbageRoom bars = Checks.dealt();
        Checks.rule(bars, "bars; nob 99; pair 3 if crib = 1; pair 0 if crib = 0; fifteen 0; run 0");
        Checks.layAll(bars);
        Checks.due("nobody can play", bars.count(6), -1);
        Checks.due("the pair in the crib alone", bars.show(), 3);
        Checks.due("it is the dealer's", bars.hand(0, 7), 3);
        Checks.due("nothing for PONE", bars.hand(1, 7), 0);
    }

    /** Cards of value 5: ten fifteens of three in each five, 99 each; so 9,999 is soon reached. */
    private static void promise17MostPegs() {
        CribbageRoom x = new CribbageRoom();
        Checks.rule(x, "value 5; fifteen 99; pair 0; run 0; flush 0; nob 0; bars");
        int pegs = 0;
        for (int i = 0; i < 8; i++) {
            x.deal(7 * i);
            for (int k = 0; k < 4; k++) {
                x.lay(x.hand(k % 2, 1), k % 2);
            }
            Checks.due("three fives of ten fifteens", x.show(), 2970);
        }
        for (int player = 0; player < 2; player++) {
            pegs = x.hand(player, 7);
            // Four times 1980 and four times 990, and 2 for each jack.
            Checks.due("pegs of " + player, pegs, 9999);
        }
        x.force(-1);
        Checks.due("rubbers add nothing", x.rubbers(1, 3), 0);
        x.deal(5);
        x.lay(x.hand(1, 1), 1);
        x.lay(x.hand(0, 1), 0);
        x.lay(x.hand(1, 1), 1);
        x.lay(x.hand(0, 1), 0);
        int told = 0;
        for (int i = 0; i < 8 && x.count(6) >= 0; i++) {
            int turn = x.count(6);
            for (int k = 1; k <= 4; k++) {
                int answer = x.play(x.hand(turn, k), turn);
                if (answer >= 0) {
                    told += answer;
                    break;
                }
            }
        }
        Checks.isSo("a play tells what is cut off, too", told > 0);
        Checks.due("no more than 9,999", x.hand(0, 7) + x.hand(1, 7), 2 * 9999);
    }

    private static void promise18Undo() {
        CribbageRoom x = new CribbageRoom();
        Checks.due("nothing", x.undo(), -3);
        x.deal(5);
        Checks.layAll(x);
        playAll(x);
        x.show();
        Checks.due("fourteen", x.count(11), 14);
        Checks.due("show", x.undo(), 3);
        Checks.due("phase", x.count(0), 2);
        Checks.due("pegs", x.hand(0, 7), 7);
        Checks.due("play", x.undo(), 2);
        Checks.due("turn", x.count(6), 0);
        Checks.due("7 is not played", x.card(7, 3), 0);
        Checks.due("play", x.undo(), 2);
        Checks.due("count", x.count(4), 24);
        Checks.due("line", x.count(5), 6);
        Checks.due("LAST", x.count(7), 0);
        for (int i = 0; i < 6; i++) {
            Checks.due("play", x.undo(), 2);
        }
        for (int i = 0; i < 4; i++) {
            Checks.due("lay", x.undo(), 1);
        }
        Checks.due("phase", x.count(0), 1);
        Checks.due("deal", x.undo(), 0);
        Checks.due("phase", x.count(0), 0);
        Checks.due("DEAL", x.count(19), 0);
        Checks.due("dealer", x.count(1), 1);
        Checks.due("starter", x.count(2), -1);
        Checks.due("hand", x.hand(1, 0), 0);
        Checks.due("none", x.undo(), -3);
        sixteen();
    }

    private static void sixteen() {
        CribbageRoom x = Checks.laid();
        playAll(x);
        x.show();
        x.deal(9);
        int card = x.hand(0, 1);
        x.lay(card, 0);
        Checks.due("sixteen", x.count(11), 16);
        x.lay(x.hand(0, 1), 0);
        Checks.due("sixteen are kept", x.count(11), 16);
        for (int i = 0; i < 16; i++) {
            Checks.due("one of sixteen", x.undo() >= 0 ? 0 : -1, 0);
        }
        Checks.due("the first deal is not undone", x.undo(), -3);
        Checks.due("one behind it", x.count(0), 1);
    }

    private static void promise18UndoLeaves() {
        CribbageRoom x = new CribbageRoom();
        x.terms(2, 3);
        x.deal(5);
        x.hold(4);
        x.seen(5, 6);
        x.force(Checks.law(x, "bars"));
        Checks.write(x, "\u0001\u0002");
        x.row();
        x.image(0);
        x.rubbers(4, 1);
        Checks.due("these leave it", x.count(11), 1);
        Checks.due("undo()", x.undo(), 0);
        Checks.due("held", x.count(8), 2);
        Checks.due("seen", x.count(9), 1);
        Checks.due("laws", x.count(10), 1);
        Checks.due("in force", x.count(18), 0);
        Checks.due("mood", x.count(21), 3);
        x.deal(5);
        Checks.due("orders", Checks.orders(x, "lay card 0 by 0 times 2"), 2);
        Checks.due("each of the orders", x.count(11), 3);
        Checks.due("lay", x.undo(), 1);
        Checks.due("five", x.hand(0, 0), 5);
        Checks.due("orders that can't be", Checks.orders(x, "lay card 0 by 0; lay card 0 by 0"), -3);
        Checks.due("leave it as it was", x.count(11), 2);
        Checks.due("lay", x.undo(), 1);
        Checks.due("back", x.back(0), 0);
        Checks.due("nothing behind back()", x.undo(), -3);
        x.lay(45, 1);
        Checks.due("a refused back()", x.back(1), -2);
        Checks.due("leaves it", x.count(11), 1);
    }
}
