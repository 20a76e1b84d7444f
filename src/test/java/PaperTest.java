/** Promises 19 to 32: what is asked on paper. */
public final class PaperTest {
    private static final String NOTHING = "fifteen 0; pair 0; run 0; flush 0; nob 0";

    public static void main(String[] args) {
        promise19Hold();
        promise20Drop();
        promise21Counted();
        promise21Parts();
        promise22Kept();
        promise23CribOf();
        promise23Refused();
        promise24ByStarters();
        promise25BestStarter();
        promise26ToEnd();
        promise26NoEnd();
        promise27Seen();
        promise28Forget();
        promise29CanBe();
        promise30Ask();
        promise31Few();
        promise32Compare();
        Checks.end("PaperTest");
    }

    private static CribbageRoom holding(int... cards) {
        CribbageRoom x = new CribbageRoom();
        Checks.hold(x, cards);
        return x;
    }

    private static void promise19Hold() {
        CribbageRoom x = new CribbageRoom();
        Checks.due("hold(-1)", x.hold(-1), -1);
        Checks.due("hold(52)", x.hold(52), -1);
        for (int i = 0; i < 6; i++) {
            Checks.due("hold", x.hold(51 - i), i + 1);
        }
        Checks.due("held already comes first", x.hold(51), -3);
        Checks.due("status", x.status(), -3);
        Checks.due("six are", x.hold(0), -5);
        Checks.due("status", x.status(), -5);
        Checks.due("no such card comes first", x.hold(52), -1);
        Checks.due("six", x.count(8), 6);
        x.drop();
        x.deal(5);
        Checks.due("a card in a hand may be held", x.hold(9), 1);
        Checks.due("status", x.status(), 0);
        Checks.due("it leaves what can be undone", x.count(11), 1);
    }

    private static void promise20Drop() {
        CribbageRoom x = holding(1, 2, 3);
        x.hold(99);
        Checks.due("drop()", x.drop(), 3);
        Checks.due("none", x.count(8), 0);
        Checks.due("not held", x.card(1, 4), 0);
        Checks.due("drop() again", x.drop(), 0);
        Checks.due("status is of others", x.status(), -1);
    }

    private static void countedAs(CribbageRoom x, int starter, int crib, int... parts) {
        int all = 0;
        for (int i = 0; i < parts.length; i++) {
            Checks.due("counted(" + starter + ", " + crib + ", " + (i + 1) + ")", x.counted(starter, crib, i + 1), parts[i]);
            all += parts[i];
        }
        Checks.due("counted(" + starter + ", " + crib + ", 0)", x.counted(starter, crib, 0), all);
    }

    private static void promise21Counted() {
        CribbageRoom x = holding(16, 17, 18, 43);
        countedAs(x, 19, 0, 16, 12, 0, 0, 1);
        countedAs(x, 19, 1, 16, 12, 0, 0, 1);
        countedAs(x, 36, 0, 14, 6, 0, 0, 0);
        for (int[] bad : new int[][] {{16, 0, 0}, {-1, 0, 0}, {52, 0, 0}, {19, 2, 0}, {19, -1, 0}, {19, 0, 6}, {19, 0, -1}}) {
            Checks.due("counted of others", x.counted(bad[0], bad[1], bad[2]), -1);
        }
        x.hold(0);
        Checks.due("five held", x.counted(19, 0, 0), -1);
        Checks.due("three held", holding(0, 1, 2).counted(19, 0, 0), -1);
        Checks.due("not one of status()'s calls", x.status(), 0);
    }

    private static void promise21Parts() {
        // 2 3 3 4 and 4: four runs of three, two pairs, no fifteen but 4 4 3 ... 4 + 4 + 3 + 3 = 14, all five 16.
        countedAs(holding(7, 8, 10, 13), 14, 0, 0, 4, 12, 0, 0);
        // A run of five and all in one suit: 1 2 3 4 5 is 15 together.
        countedAs(holding(0, 4, 8, 12), 16, 0, 2, 0, 5, 5, 0);
        countedAs(holding(0, 4, 8, 12), 17, 0, 2, 0, 5, 4, 0);
        countedAs(holding(0, 4, 8, 12), 17, 1, 2, 0, 5, 0, 0);
        countedAs(holding(0, 4, 8, 12), 16, 1, 2, 0, 5, 5, 0);
        // The starter ends a run of four, twice: 6 6 7 8 and 9: 15 by 6 9 twice and 7 8.
        countedAs(holding(20, 21, 24, 28), 34, 0, 6, 2, 8, 0, 0);
        // No run around the corner: Q K A.
        countedAs(holding(44, 48, 1, 30), 35, 0, 0, 0, 0, 0, 0);
        // Two jacks, a nob by the starter's suit alone; the starter is no nob itself.
        countedAs(holding(40, 41, 0, 26), 5, 0, 0, 2, 0, 0, 1);
        countedAs(holding(0, 26, 32, 45), 42, 0, 0, 0, 0, 0, 0);
        CribbageRoom target = holding(16, 17, 18, 43);
        target.terms(3, 20);
        // 20: all four fives, 10 5 5 in six ways.
        countedAs(target, 19, 0, 14, 12, 0, 0, 1);
        target.terms(3, 5);
        countedAs(target, 19, 0, 0, 12, 0, 0, 1);
        CribbageRoom none = holding(0, 4, 8, 13);
        Checks.rule(none, "run 0 if size = 4; fifteen 0");
        countedAs(none, 51, 0, 0, 0, 0, 0, 0);
        countedAs(none, 16, 0, 0, 0, 5, 0, 0);
    }

    private static void promise22Kept() {
        CribbageRoom x = holding(16, 17, 18, 43, 0, 49);
        Checks.due("the lower", x.kept(1), 0);
        Checks.due("the higher", x.kept(2), 49);
        int sum = 0;
        Checks.hold(x, 16, 17, 18, 43);
        for (int starter = 0; starter < 52; starter++) {
            sum += starter == 0 || starter == 49 ? 0 : Math.max(0, x.counted(starter, 0, 0));
        }
        Checks.hold(x, 16, 17, 18, 43, 0, 49);
        Checks.due("together", x.kept(0), sum);
        Checks.due("kept(3)", x.kept(3), -1);
        Checks.due("kept(-1)", x.kept(-1), -1);
        Checks.rule(x, NOTHING);
        Checks.due("nothing counts", x.kept(0), 0);
        Checks.due("the first two", x.kept(1), 0);
        Checks.due("the first two", x.kept(2), 16);
        Checks.rule(x, NOTHING + "; pair 1 if rank = 4 and crib = 0");
        // Three pairs of the three fives with 46 starters, three more with the fourth.
        Checks.due("pairs alone", x.kept(0), 3 * 46 + 3);
        Checks.due("the first two that leave the fives", x.kept(2), 43);
        x.drop();
        Checks.due("none held", x.kept(0), -1);
        Checks.due("five held", holding(1, 2, 3, 4, 5).kept(0), -1);
    }

    private static void promise23CribOf() {
        CribbageRoom x = new CribbageRoom();
        Checks.rule(x, NOTHING);
        Checks.due("nothing", x.cribOf(0, 1), 0);
        Checks.rule(x, NOTHING + "; flush 1");
        Checks.due("a flush of five alone", x.cribOf(0, 4), 3 * 165);
        Checks.due("two suits", x.cribOf(0, 5), 0);
        Checks.rule(x, NOTHING + "; nob 1");
        // The jack laid: 11 starters, 1176 twos. Three more jacks: each with 12 starters and 48 others.
        Checks.due("nobs", x.cribOf(40, 0), 11 * 1176 + 3 * 12 * 48);
        Checks.rule(x, NOTHING + "; pair 1");
        // Both one rank: that pair always, 2 cards of it come in, 48 others in twelve ranks.
        Checks.due("pairs", x.cribOf(0, 1), 3 * (19600 + 2 * 2 * 1176 + 48 + 12 * 6 * 48));
        Checks.rule(x, NOTHING + "; fifteen 1 if size = 2");
        // Two aces of 1: fifteens of two come only from the three: 10 with 5 (16 by 4), 9 with 6, 8 with 7.
        Checks.due("fifteens of two", x.cribOf(0, 1), 3L * 48 * (64 + 16 + 16));
        Checks.rule(x, NOTHING + "; run 1 if size = 5");
        // 1 and 2 with 3 4 5.
        Checks.due("runs of five", x.cribOf(0, 4), 3 * 64);
        Checks.hold(x, 8, 9, 10, 40, 41);
        Checks.due("three of them held", x.cribOf(0, 4), 3 * 16);
        held();
    }

    private static void held() {
        CribbageRoom x = holding(8, 9, 10, 40, 41);
        Checks.rule(x, NOTHING + "; flush 1");
        Checks.due("two of suit 0 held", x.cribOf(0, 4), 3 * 84);
        Checks.due("the two may be held", x.cribOf(8, 0), 3 * 120);
        Checks.rule(x, "flush 1; " + NOTHING.replace("flush 0", "flush 0 if crib = 0"));
        Checks.due("as a crib", x.cribOf(0, 4), 3 * 84);
        Checks.due("in either order", x.cribOf(4, 0), 3 * 84);
    }

    private static void promise23Refused() {
        CribbageRoom x = new CribbageRoom();
        for (int[] bad : new int[][] {{0, 0}, {-1, 0}, {0, -1}, {52, 0}, {0, 52}, {Integer.MAX_VALUE, Integer.MIN_VALUE}}) {
            Checks.due("cribOf(" + bad[0] + ", " + bad[1] + ")", x.cribOf(bad[0], bad[1]), -1);
        }
    }

    private static void promise24ByStarters() {
        CribbageRoom x = holding(16, 17, 18, 43);
        Checks.due("all", x.byStarters(0), 48);
        Checks.due("29", x.byStarters(29), 1);
        Checks.due("30", x.byStarters(30), 0);
        Checks.due("999", x.byStarters(999), 0);
        Checks.due("1000", x.byStarters(1000), -1);
        Checks.due("-1", x.byStarters(-1), -1);
        Checks.rule(x, NOTHING + "; nob 4");
        Checks.due("of the jack's suit", x.byStarters(4), 12);
        x.hold(0);
        Checks.due("five held", x.byStarters(0), -1);
    }

    private static void promise25BestStarter() {
        CribbageRoom x = holding(16, 17, 18, 43);
        Checks.due("the card", x.bestStarter(0), 19);
        Checks.due("what it counts", x.bestStarter(1), 29);
        Checks.due("bestStarter(2)", x.bestStarter(2), -1);
        Checks.due("bestStarter(-1)", x.bestStarter(-1), -1);
        Checks.rule(x, NOTHING);
        Checks.due("the lowest", x.bestStarter(0), 0);
        Checks.due("0", x.bestStarter(1), 0);
        Checks.hold(x, 0, 1, 2, 3);
        Checks.due("the lowest not held", x.bestStarter(0), 4);
        x.drop();
        Checks.due("none held", x.bestStarter(0), -1);
    }

    private static void promise26ToEnd() {
        CribbageRoom x = Checks.laid();
        int ahead = x.toEnd(0);
        // Both play as toEnd() tells: it comes to what it told first.
        int[] pegs = new int[2];
        for (int i = 0; i < 8 && x.count(6) >= 0; i++) {
            int turn = x.count(6);
            Checks.due("as told", x.toEnd(0), turn == 1 ? ahead - pegs[1] + pegs[0] : pegs[1] - pegs[0] - ahead);
            pegs[turn] += x.play(x.toEnd(1), turn);
        }
        Checks.due("in the end", pegs[1] - pegs[0], ahead);
        Checks.due("nobody's turn", x.toEnd(0), -1000);
        CribbageRoom last = Checks.laid();
        int[] plays = {24, 13, 15, 8, 9, 10, 23};
        for (int i = 0; i < 7; i++) {
            last.play(plays[i], 1 - i % 2);
        }
        Checks.due("one card left", last.toEnd(0), 1);
        Checks.due("that one", last.toEnd(1), 7);
        CribbageRoom even = Checks.laid();
        Checks.rule(even, "fifteen 0; pair 0; run 0; value 31");
        Checks.due("each of eight counts 2", even.toEnd(0), 0);
        Checks.due("the lowest", even.toEnd(1), 9);
        CribbageRoom rich = Checks.laid();
        Checks.rule(rich, "value 1; fifteen 0; run 0; pair 99 if rank = 2; pair 0 if rank > 2; bars if not rank = 2 and not rank = 6");
        rich.terms(3, 31);
        // PONE has 9 and 24 to play, DEALER 8 and 10: 24 first, then 8, 9 (99), 10 (297, and 1 for the last).
        Checks.due("9 first: 99 by 8, then 24, 10 and the last", rich.toEnd(0), -100);
        Checks.due("which", rich.toEnd(1), 9);
    }

    private static void promise26NoEnd() {
        CribbageRoom x = new CribbageRoom();
        Checks.due("phase 0", x.toEnd(0), -1000);
        CribbageRoom y = Checks.laid();
        Checks.due("toEnd(2)", y.toEnd(2), -1000);
        Checks.due("toEnd(-1)", y.toEnd(-1), -1000);
        Checks.rule(y, "bars");
        Checks.due("all are barred since", y.toEnd(0), -1000);
        Checks.due("no card, too", y.toEnd(1), -1000);
        y.force(-1);
        Checks.isSo("it can be again", y.toEnd(1) >= 0);
        Checks.due("nothing is changed", y.count(11), 5);
        Checks.due("no pegs", y.hand(0, 7), 0);
    }

    private static void promise27Seen() {
        CribbageRoom x = new CribbageRoom();
        x.deal(5);
        for (int[] bad : new int[][] {{-1, 0}, {52, 0}, {0, -1}, {0, 1000}}) {
            Checks.due("seen(" + bad[0] + ", " + bad[1] + ")", x.seen(bad[0], bad[1]), -1);
        }
        Checks.due("status", x.status(), -1);
        for (int i = 1; i <= 6; i++) {
            Checks.due("seen", x.seen(51, 999), i);
        }
        Checks.due("no room", x.seen(51, 999), -5);
        Checks.due("a bad number comes first", x.seen(52, 999), -1);
        Checks.due("six", x.count(9), 6);
        Checks.due("it leaves what can be undone", x.count(11), 1);
    }

    private static void promise28Forget() {
        CribbageRoom x = new CribbageRoom();
        x.seen(0, 0);
        x.seen(1, 0);
        x.hold(77);
        Checks.due("forget()", x.forget(), 2);
        Checks.due("none", x.count(9), 0);
        Checks.due("again", x.forget(), 0);
        Checks.due("status is of others", x.status(), -1);
    }

    private static void promise29CanBe() {
        CribbageRoom x = holding(16, 17, 18, 43, 0, 49);
        Checks.due("all fifteen", x.canBe(), 32767);
        x.seen(19, 29);
        // Six HELD, rising: 0 16 17 18 43 49; laid away 0 and 49 is the fifth.
        Checks.due("0 and 49 are laid away", x.canBe(), 1 << 4);
        x.seen(19, 28);
        Checks.due("both can't be", x.canBe(), 0);
        x.forget();
        x.seen(16, 0);
        Checks.due("the starter is held", x.canBe(), 0);
        x.drop();
        Checks.due("none held", x.canBe(), -1);
        Checks.hold(x, 1, 2, 3, 4, 5);
        Checks.due("five held", x.canBe(), -1);
        CribbageRoom y = holding(0, 1, 4, 5, 8, 9);
        Checks.rule(y, NOTHING + "; pair 1 if rank = 0");
        y.seen(2, 3);
        // Both aces are kept: the lower laid away is 4 at least, from number 9 on.
        Checks.due("both aces", y.canBe(), 32767 & ~511);
        y.seen(51, 1);
        Checks.due("that says the same", y.canBe(), 32767 & ~511);
        y.force(-1);
        Checks.due("as it is counted now", y.canBe(), 0);
    }

    private static void promise30Ask() {
        CribbageRoom y = holding(0, 1, 4, 5, 8, 9);
        Checks.rule(y, NOTHING + "; pair 1 if rank = 0");
        // With an ace as starter: both aces 3, one 1, none 0: six, eight, one of the fours; with others six and nine.
        Checks.due("an ace", y.ask(0), 2);
        Checks.due("eight at most", y.ask(1), 8);
        y.seen(51, 0);
        Checks.due("one or none: an ace", y.ask(0), 2);
        Checks.due("eight at most", y.ask(1), 8);
        y.seen(2, 1);
        Checks.due("one ace: whichever", y.ask(0), 2);
        Checks.due("all eight", y.ask(1), 8);
        y.seen(2, 2);
        Checks.due("it can be none", y.ask(0), -1);
        Checks.due("it can be none", y.ask(1), -1);
        y.forget();
        Checks.due("ask(2)", y.ask(2), -1);
        Checks.due("ask(-1)", y.ask(-1), -1);
        y.force(Checks.law(y, NOTHING));
        Checks.due("the lowest not held", y.ask(0), 2);
        Checks.due("all", y.ask(1), 15);
        y.drop();
        Checks.due("none held", y.ask(0), -1);
    }

    private static void promise31Few() {
        CribbageRoom x = new CribbageRoom();
        long all = 1000000000000L;
        Checks.due("no deals", x.few(1, 0), all);
        Checks.due("few(20, 0)", x.few(20, 0), all);
        Checks.due("none of two", x.few(1, 2), 810000000000L);
        Checks.due("one at most of two", x.few(2, 2), 990000000000L);
        Checks.due("two at most of two", x.few(3, 2), all);
        for (int[] bad : new int[][] {{0, 0}, {21, 0}, {1, -1}, {1, 100}, {-5, 5}}) {
            Checks.due("few(" + bad[0] + ", " + bad[1] + ")", x.few(bad[0], bad[1]), -1);
        }
        x.terms(1, 0);
        Checks.due("never", x.few(1, 99), all);
        x.terms(1, 10);
        Checks.due("always: fewer than 20 of 19", x.few(20, 19), all);
        Checks.due("always: fewer than 20 of 20", x.few(20, 20), 0);
        x.terms(1, 9);
        Checks.due("twelve tenths", x.few(1, 12), 1);
        Checks.due("cut", x.few(1, 13), 0);
        // Behind twelve deals 1 and 9 * 12 parts; behind 13 the 108 leave 10 by a tenth, cut, and the 1 leaves none.
        Checks.due("few(2, 12)", x.few(2, 12), 1 + 108);
        Checks.due("few(2, 13)", x.few(2, 13), 10);
    }

    private static void promise32Compare() {
        CribbageRoom x = holding(16, 17, 18, 43);
        Checks.law(x, NOTHING + "; pair 1");
        Checks.law(x, "pair 9 if deal = 1; pair 8 if mood = 4; pair 7 if crib = 1");
        Checks.due("none", x.compare(-1, 19), 29);
        Checks.due("law 0", x.compare(0, 19), 6);
        Checks.due("law 1", x.compare(1, 19), 29);
        x.terms(0, 1);
        Checks.due("law 1 in deal 1", x.compare(1, 19), 29 + 6 * 7);
        x.terms(2, 4);
        Checks.due("law 1 in mood 4", x.compare(1, 19), 29 + 6 * 6);
        x.force(0);
        Checks.due("none in place of it", x.compare(-1, 19), 29);
        Checks.due("it stays in force", x.count(18), 0);
        Checks.due("and counts", x.counted(19, 0, 0), 6);
        x.terms(3, 20);
        Checks.due("TARGET is the same", x.compare(-1, 19), 27);
        for (int[] bad : new int[][] {{2, 19}, {-2, 19}, {0, 16}, {0, 52}, {0, -1}}) {
            Checks.due("compare(" + bad[0] + ", " + bad[1] + ")", x.compare(bad[0], bad[1]), -1);
        }
        x.hold(0);
        Checks.due("five held", x.compare(0, 19), -1);
    }
}
