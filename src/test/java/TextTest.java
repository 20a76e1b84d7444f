/** Promises 5 to 13: the tape, rows, and the two languages. */
public final class TextTest {
    public static void main(String[] args) {
        promise5Feed();
        promise6End();
        promise7And8Row();
        promise9Law();
        promise9Words();
        promise9Broken();
        promise10Orders();
        promise10Words();
        promise10Whole();
        promise11Fault();
        promise11FaultsOfOrders();
        promise11Limits();
        promise12Stopped();
        promise13Force();
        Checks.end("TextTest");
    }

    private static void promise5Feed() {
        CribbageRoom x = new CribbageRoom();
        Checks.due("twenty", x.feed(0x00010203, 0x04ff0533, 0x34000000, 0, 0), 20);
        x.end(9);
        Checks.due("the highest byte first", x.row(), 6);
        for (int card = 0; card <= 5; card++) {
            Checks.due("held " + card, x.card(card, 4), 1);
        }
        Checks.due("255, 51 without room, 52", x.jokers(), 3);
        for (int i = 1; i <= 20; i++) {
            Checks.due("feed " + i, x.feed(-1, -1, -1, -1, -1), 20 * i);
        }
        Checks.due("more than 400", x.feed(1, 2, 3, 4, 5), -1);
        Checks.due("400 stay", x.count(12), 400);
        x.end(381);
        Checks.due("381 and 20", x.feed(1, 2, 3, 4, 5), -1);
        x.end(380);
        Checks.due("380 and 20", x.feed(1, 2, 3, 4, 5), 400);
        Checks.due("not one of status()'s calls", x.status(), 0);
        Checks.due("nothing counted as refused", x.count(13), 0);
    }

    private static void promise6End() {
        CribbageRoom x = new CribbageRoom();
        Checks.due("end(0)", x.end(0), 0);
        Checks.due("end(1) of none", x.end(1), -1);
        x.feed(1, 2, 3, 4, 5);
        Checks.due("end(-1)", x.end(-1), -1);
        Checks.due("end(21)", x.end(21), -1);
        Checks.due("end(20)", x.end(20), 20);
        Checks.due("end(7)", x.end(7), 7);
        Checks.due("bytes", x.count(12), 7);
        Checks.due("end(8)", x.end(8), -1);
        Checks.due("behind the first 7", x.feed(1, 2, 3, 4, 5), 27);
        Checks.due("end(most)", x.end(Integer.MAX_VALUE), -1);
        Checks.due("end(least)", x.end(Integer.MIN_VALUE), -1);
    }

    private static void promise7And8Row() {
        CribbageRoom x = new CribbageRoom();
        Checks.due("an empty tape", x.row(), -6);
        Checks.due("status", x.status(), -6);
        Checks.due("refused by -6", x.count(17), 1);
        x.hold(50);
        Checks.write(x, "\u0003\u0003\u0034\u0033");
        Checks.due("row()", x.row(), 2);
        Checks.due("jokers", x.jokers(), 2);
        Checks.due("3", x.card(3, 4), 1);
        Checks.due("51", x.card(51, 4), 1);
        Checks.due("in place of all that were", x.card(50, 4), 0);
        Checks.due("the tape is empty", x.count(12), 0);
        Checks.due("row() again", x.row(), -6);
        Checks.due("jokers of the latest that was not refused", x.jokers(), 2);
        Checks.due("held stay", x.count(8), 2);
        Checks.write(x, "\u0001\u0002\u0003\u0004\u0005\u0006\u0007\u0001");
        Checks.due("six", x.row(), 6);
        Checks.due("the seventh and the first again", x.jokers(), 2);
        Checks.write(x, "\u00ff\u00c8");
        Checks.due("none", x.row(), 0);
        Checks.due("both", x.jokers(), 2);
    }

    private static void promise9Law() {
        CribbageRoom x = new CribbageRoom();
        x.deal(5);
        for (int i = 0; i < 6; i++) {
            Checks.due("law " + i, Checks.law(x, "value " + (i + 1)), i);
            Checks.due("the tape is empty", x.count(12), 0);
        }
        Checks.due("it leaves what can be undone", x.count(11), 1);
        Checks.law(x, "bars if");
        Checks.due("six", x.count(10), 6);
        Checks.due("no fault where none was read", x.fault(), -1);
        Checks.due("no room", Checks.law(x, "bars"), -5);
        Checks.due("status", x.status(), -5);
        Checks.due("the tape is empty then, too", x.count(12), 0);
        Checks.due("refused by -5", x.count(16), 2);
        CribbageRoom y = new CribbageRoom();
        Checks.due("an empty tape", y.law(), -6);
        Checks.due("at 0", y.fault(), 0);
        Checks.due("blanks alone", Checks.law(y, "    "), -6);
        Checks.due("at the end", y.fault(), 4);
        Checks.due("a bad text", Checks.law(y, "value"), -6);
        Checks.due("the tape is empty", y.count(12), 0);
        Checks.due("no law", y.count(10), 0);
        Checks.due("a good one", Checks.law(y, "  bars  "), 0);
        Checks.due("no fault", y.fault(), -1);
        Checks.due("none is in force by that", y.count(18), -1);
        Checks.due("no blanks", Checks.law(y, "value 1if rank<3or suit=2;bars"), 1);
    }

    /** What 16 17 18 43 (three fives, a jack) with 19 count in a hand: 16, 12, 0, 0, 1. */
    private static void promise9Words() {
        CribbageRoom x = new CribbageRoom();
        Checks.hold(x, 16, 17, 18, 43);
        Checks.rule(x, "fifteen size * 10 + rank + suit");
        Checks.due("four of two, four of three", x.counted(19, 0, 1), 4 * 18 + 4 * 28);
        Checks.rule(x, "fifteen crib + 5");
        Checks.due("in a hand", x.counted(19, 0, 1), 40);
        Checks.due("in the crib", x.counted(19, 1, 1), 48);
        Checks.rule(x, "pair rank * 10 + size + suit");
        Checks.due("pairs of rank 4", x.counted(19, 0, 2), 6 * 41);
        Checks.rule(x, "nob suit * 10 + rank + size");
        Checks.due("a nob of suit 3", x.counted(19, 0, 5), 28);
        Checks.hold(x, 2, 6, 10, 14);
        Checks.rule(x, "flush suit * 10 + size + rank; run size * 10 + rank + suit");
        Checks.due("a flush of four", x.counted(17, 0, 4), 23);
        Checks.due("a flush of five", x.counted(18, 0, 4), 24);
        Checks.due("a flush of five in the crib", x.counted(18, 1, 4), 24);
        Checks.due("none of four in the crib", x.counted(17, 1, 4), 0);
        Checks.due("a run of five", x.counted(17, 0, 3), 48);
        x.force(-1);
        CribbageRoom y = new CribbageRoom();
        Checks.rule(y, "value deal * 10 + mood if rank = 0");
        Checks.due("nothing yet", y.card(0, 0), 1);
        y.terms(0, 2);
        Checks.due("deal 2", y.card(0, 0), 20);
        y.terms(2, 7);
        Checks.due("mood 7", y.card(0, 0), 27);
        y.terms(0, 1);
        y.deal(5);
        Checks.due("the next deal", y.card(0, 0), 27);
        y.undo();
        Checks.due("taken back", y.card(0, 0), 17);
    }

    private static int valueBy(String text) {
        CribbageRoom x = new CribbageRoom();
        Checks.rule(x, text);
        return x.card(2, 0);
    }

    /** Of card 2, an ace of suit 2. */
    private static void promise9Broken() {
        String[] so = {"1 = 1", "2 > 1", "1 < 2", "not 1 = 2", "not not 1 = 1", "(1 = 1)", "1 = 2 or 1 = 1", "1 = 1 or 1 / 0 = 1",
            "not (1 = 2 and 1 / 0 = 1)", "1 = 1 or 1 = 1 and 1 = 2", "not 1 = 2 and 2 = 2", "[0 - 7] / 2 = 0 - 3", "[0 - 7] % 2 = 0 - 1",
            "7 % [0 - 2] = 1", "2 + 3 * 4 = 14", "[2 + 3] * 4 = 20", "10 - 3 - 2 = 5", "100 / 10 / 5 = 2", "1000 * 1000 * 1000 > 0",
            "0 - 1000 * 1000 * 1000 < 0", "suit = 2 and rank = 0 and size = 0 - 1 and crib = 0 - 1", "007 = 7"};
        for (String test : so) {
            Checks.due(test, valueBy("value 9 if " + test), 9);
        }
        String[] notSo = {"1 = 2", "1 > 1", "1 < 1", "1 / 0 = 1", "1 % 0 = 1", "not 1 / 0 = 1", "1 / 0 = 1 or 1 = 1", "1 = 1 and 1 / 0 = 1",
            "1 = 2 or 1 % 0 = 1", "1000 * 1000 * 1000 + 1 > 0", "0 - 1000 * 1000 * 1000 - 1 < 0", "1000 * 1000 * 1000 * 2 / 4 > 0",
            "not (1 = 2 or 0 / 0 = 0)", "1 = 1 and not 1 = 1", "1 = 2 and 1 = 1 or 1 = 2"};
        for (String test : notSo) {
            Checks.due(test, valueBy("value 9 if " + test), 1);
        }
        Checks.due("the last that holds", valueBy("value 3; value 4; value 5 if 1 = 2; value 6 / 0"), 4);
        Checks.due("the most", valueBy("value 1000 * 1000"), 31);
        Checks.due("the least", valueBy("value 0"), 1);
        CribbageRoom x = new CribbageRoom();
        Checks.hold(x, 16, 17, 18, 43);
        Checks.rule(x, "pair 100; nob 0 - 1; fifteen 99");
        Checks.due("99 at most", x.counted(19, 0, 2), 594);
        Checks.due("0 at least", x.counted(19, 0, 5), 0);
        Checks.due("99", x.counted(19, 0, 1), 8 * 99);
    }

    private static void promise10Orders() {
        CribbageRoom x = new CribbageRoom();
        Checks.due("an empty tape", x.orders(), -6);
        Checks.due("at 0", x.fault(), 0);
        Checks.due("blanks", Checks.orders(x, "  "), -6);
        Checks.due("at the end", x.fault(), 2);
        Checks.due("deal", Checks.orders(x, "deal 5"), 1);
        Checks.due("the tape is empty", x.count(12), 0);
        Checks.due("starter", x.count(2), 14);
        Checks.due("none is run", Checks.orders(x, "deal 5 if phase = 0"), 0);
        Checks.due("a broken if is not run", Checks.orders(x, "deal 5 if 1 / 0 = 1"), 0);
        Checks.due("status", x.status(), 0);
        Checks.due("a card that is not there", Checks.orders(x, "lay 21 by 0; lay card 5 by 0"), -3);
        Checks.due("all laid", Checks.orders(x, "lay 21 by 0; lay card 0 by 0; lay card 10 by 1 times 2"), 4);
        Checks.due("phase", x.count(0), 2);
        Checks.due("played", Checks.orders(x, "play card 9 by turn; play 13 by turn; play 15 by turn if latest = 0"), 3);
        Checks.due("pegs", x.hand(1, 7), 4);
    }

    private static void promise10Words() {
        CribbageRoom x = new CribbageRoom();
        Checks.due("at first", Checks.orders(x, "show if not (phase = 0 and done = 0 and latest = 0 - 1 and count = 0 and turn = 0 - 1 and pegs 0 = 0 and pegs 1 = 0 and card 0 = 0 - 1 and card 11 = 0 - 1)"), 0);
        x.deal(5);
        Checks.due("cards", Checks.orders(x, "show if not (card 0 = 0 and card 5 = 21 and card 6 = 9 and card 11 = 46 and phase = 1)"), 0);
        Checks.due("done", Checks.orders(x, "lay 45 by 1 times 3 if done = 0; lay 46 by done; lay 0 by 0 if done = 2; lay 21 by 0 if done = 3"), 4);
        Checks.due("card 10 is none then", Checks.orders(x, "show if not (card 10 = 0 - 1 and card 9 = 24 and card 3 = 13 and turn = 1)"), 0);
        Checks.due("play", Checks.orders(x, "play 24 by 1; show if not latest = 0; play 13 by 0; play 15 by 1; show if not latest = 4; show if not (count = 15 and pegs 1 = 4)"), 3);
        Checks.due("latest is of this text", Checks.orders(x, "show if not latest = 0 - 1"), 0);
        CribbageRoom y = new CribbageRoom();
        y.deal(5);
        Checks.due("times with an if each time", Checks.orders(y, "lay card 0 by 0 times 20 if card 4 > 0 - 1"), 2);
        Checks.due("four are left", y.hand(0, 0), 4);
    }

    private static void promise10Whole() {
        CribbageRoom x = new CribbageRoom();
        x.deal(5);
        x.lay(45, 1);
        Checks.due("the third can't be", Checks.orders(x, "lay 46 by 1; lay 0 by 0; lay 46 by 1"), -3);
        Checks.due("status", x.status(), -3);
        Checks.due("refused by -3 once", x.count(15), 1);
        Checks.due("all is as it was", x.count(3), 1);
        Checks.due("46 is in the hand", x.card(46, 2), 1);
        Checks.due("what can be undone, too", x.count(11), 2);
        Checks.due("a broken sum", Checks.orders(x, "lay 1 / 0 by 1"), -3);
        Checks.due("a broken second sum", Checks.orders(x, "lay 46 by 1 % 0"), -3);
        Checks.due("no such card", Checks.orders(x, "lay 52 by 1"), -3);
        Checks.due("no such player", Checks.orders(x, "lay 46 by 2"), -3);
        Checks.due("a bad seed", Checks.orders(x, "deal 0 - 1"), -3);
        Checks.due("not by -1", x.count(13), 0);
        Checks.due("not shown", Checks.orders(x, "show"), -3);
        Checks.due("the tape is empty", x.count(12), 0);
        CribbageRoom whole = new CribbageRoom();
        String deal = "deal 5; lay card 11 by 1; lay card 10 by 1; lay card 5 by 0; lay card 0 by 0; ";
        Checks.due("a whole deal", Checks.orders(whole, deal
            + "play card 9 by 1; play 13 by 0; play 15 by 1; play 8 by 0; play 9 by 1; play 10 by 0; play 23 by 1"), 12);
        Checks.due("and its end", Checks.orders(whole, "play 7 by turn; show; deal 5 times 1 if phase = 3"), 3);
        Checks.due("deal 2", whole.count(19), 2);
        Checks.due("sixteen are kept", whole.count(11), 15);
        CribbageRoom many = new CribbageRoom();
        many.force(Checks.law(many, "bars"));
        Checks.orders(many, deal + "show");
        Checks.due("six", many.count(11), 6);
        Checks.due("far more than sixteen, then none", Checks.orders(many, deal + "show; " + deal + "show; show"), -6);
        Checks.due("far more than sixteen, then none", Checks.orders(many, deal + "show; " + deal + "lay 1 / 0 by 1"), -3);
        Checks.due("six as ahead", many.count(11), 6);
        Checks.due("the show", many.undo(), 3);
        Checks.due("the lay", many.undo(), 1);
    }

    private static void faultOf(boolean law, String text, int place) {
        CribbageRoom x = new CribbageRoom();
        int answer = law ? Checks.law(x, text) : Checks.orders(x, text);
        Checks.due("'" + text + "'", answer < 0 ? answer : 0, place < 0 ? 0 : -6);
        Checks.due("fault of '" + text + "'", x.fault(), place);
    }

    private static void promise11Fault() {
        faultOf(true, "value 1", -1);
        faultOf(true, "value", 5);
        faultOf(true, "value ", 6);
        faultOf(true, " valu 1", 1);
        faultOf(true, "value 1 2", 8);
        faultOf(true, "value 1001", 6);
        faultOf(true, "value 1000", -1);
        faultOf(true, "value 0001000", -1);
        faultOf(true, "value 99999999999999999999", 6);
        faultOf(true, "value phase", 6);
        faultOf(true, "deal 1", 0);
        faultOf(true, "bars 1", 5);
        faultOf(true, "bars if", 7);
        faultOf(true, "bars if 1", 9);
        faultOf(true, "bars if 1 = ", 12);
        faultOf(true, "bars if 1 = 2 = 3", 14);
        faultOf(true, "bars if (1 = 2", 14);
        faultOf(true, "bars if (1) = 2", 10);
        faultOf(true, "bars if [1] = 2", -1);
        faultOf(true, "bars if [1 = 2]", 11);
        faultOf(true, "bars if not", 11);
        faultOf(true, "bars if not not rank = 1 and", 28);
        faultOf(true, "bars;", 5);
        faultOf(true, "bars; ;", 6);
        faultOf(true, "; bars", 0);
        faultOf(true, "pair [1 + 2", 11);
        faultOf(true, "pair 1 + ", 9);
        faultOf(true, "pair -1", 5);
        faultOf(true, "pair 1 times 2", 7);
        faultOf(true, "nob Rank", 4);
        faultOf(true, "nob rank\t", 8);
        faultOf(true, "nob \u00e9", 4);
        faultOf(true, "nob rank2", 8);
        faultOf(true, "nob 2rank", 5);
    }

    private static void promise11FaultsOfOrders() {
        faultOf(false, "lay 1 or 2", 6);
        faultOf(false, "lay 1 by", 8);
        faultOf(false, "play 1", 6);
        faultOf(false, "deal", 4);
        faultOf(false, "value 1", 0);
        faultOf(false, "show 1", 5);
        faultOf(false, "show times 0", 11);
        faultOf(false, "show times 21", 11);
        faultOf(false, "show times x", 11);
        faultOf(false, "show times 2 times 2", 13);
        faultOf(false, "show if 1 = 2 times 2", 14);
        faultOf(false, "show if pegs 2 = 0", 13);
        faultOf(false, "show if pegs = 0", 13);
        faultOf(false, "lay card 12 by 0", 9);
        faultOf(false, "lay card by 0", 9);
        faultOf(false, "deal rank", 5);
        faultOf(false, "show times 20 if 1 = 2", -1);
        CribbageRoom x = new CribbageRoom();
        Checks.due("ahead of any", x.fault(), -1);
        Checks.law(x, "valu");
        Checks.due("of the latest", x.fault(), 0);
        Checks.orders(x, "show if 1 = 2");
        Checks.due("none", x.fault(), -1);
        Checks.orders(x, "show ?");
        Checks.due("at 5", x.fault(), 5);
        Checks.orders(x, "show");
        Checks.due("read, but it can't be", x.fault(), -1);
    }

    private static void promise11Limits() {
        faultOf(true, "bars;".repeat(11) + "bars", -1);
        faultOf(true, "bars;".repeat(12) + "bars", 60);
        faultOf(true, "bars;".repeat(12) + "  ", 62);
        faultOf(false, "show if 1=2;".repeat(11) + "show if 1=2", -1);
        faultOf(false, "show if 1=2;".repeat(12) + " show", 145);
        faultOf(true, "run 1" + "+1".repeat(49), -1);
        faultOf(true, "run 1" + "+1".repeat(50), 104);
        faultOf(true, "run size;".repeat(4) + "run 1" + "+1".repeat(45) + "; bars if 1", 141);
        faultOf(true, "run " + "[".repeat(8) + "1" + "]".repeat(8), -1);
        faultOf(true, "run " + "[".repeat(9) + "1" + "]".repeat(9), 12);
        faultOf(true, "bars if " + "(".repeat(4) + "[[[[1]]]] = 1" + ")".repeat(4), -1);
        faultOf(true, "bars if " + "(".repeat(5) + "[[[[1]]]] = 1" + ")".repeat(5), 16);
        faultOf(true, "bars if " + "(1=1) and ".repeat(20) + "[1]=[1]", -1);
        faultOf(true, "bars if " + "not ".repeat(97) + "1=1", -1);
        // 25 comparisons with "pegs" and a NUMBER are 50 parts; P is none.
        String half = "show if " + "pegs 1=9 or ".repeat(24);
        faultOf(false, half + "pegs 0=9", -1);
        faultOf(false, half + "pegs 0=9;show times 3 if 1=2", 8 + 12 * 24 + 25);
        faultOf(true, " ".repeat(396) + "bars", -1);
        faultOf(true, " ".repeat(397) + "bar", 397);
    }

    private static void promise12Stopped() {
        CribbageRoom x = new CribbageRoom();
        Checks.due("ahead of any", x.stopped(), -1);
        Checks.orders(x, "deal 5; show if 1 = 2; lay 1 by 0");
        Checks.due("the third", x.stopped(), 2);
        Checks.law(x, "bars");
        Checks.due("a law leaves it", x.stopped(), 2);
        Checks.orders(x, "deal");
        Checks.due("refused by -6", x.stopped(), -1);
        Checks.orders(x, "show");
        Checks.due("the first", x.stopped(), 0);
        Checks.orders(x, "deal 5");
        Checks.due("that was done", x.stopped(), -1);
    }

    private static void promise13Force() {
        CribbageRoom x = new CribbageRoom();
        Checks.due("no law 0", x.force(0), -2);
        Checks.due("status", x.status(), -2);
        Checks.due("refused by -2", x.count(14), 1);
        Checks.law(x, "value 3");
        Checks.law(x, "value 4");
        x.deal(5);
        Checks.due("force(1)", x.force(1), -1);
        Checks.due("status", x.status(), 0);
        Checks.due("value", x.card(9, 0), 4);
        Checks.due("force(0)", x.force(0), 1);
        Checks.due("value", x.card(9, 0), 3);
        Checks.due("force(2)", x.force(2), -2);
        Checks.due("force(-2)", x.force(-2), -2);
        Checks.due("0 is in force", x.count(18), 0);
        Checks.due("force(NONE)", x.force(-1), 0);
        Checks.due("value", x.card(9, 0), 3);
        Checks.due("value of a king", x.card(50, 0), 10);
        Checks.due("it leaves what can be undone", x.count(11), 1);
    }
}
