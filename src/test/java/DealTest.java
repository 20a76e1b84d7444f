import java.util.ArrayList;
import java.util.List;

/** Terms I and III, sentence by sentence: DEAL, LAY, PLAY, SHOW, what they peg, and the 9,999 of PEGS. */
public final class DealTest {
    private static final String NOTHING = "fifteen 0; pair 0; run 0; flush 0; nob 0";

    public static void main(String[] args) {
        drawsOfADeal();
        dealsInTurns();
        dealInPhases();
        dealUpTo999();
        aDealClears();
        handsOfMoreThanFour();
        theLastToLay();
        jackAsStarter();
        whoseTurnAtFirst();
        countUpTo31();
        targetAnd31();
        targetFrom5();
        pairsInPlay();
        runsInPlay();
        runOnlyKnownWithMore();
        noRunThroughAPair();
        lineSinceCountWas0();
        oneGoesOn();
        oneForTheLast();
        theFirstAndTheLastCard();
        nobodyWithCardsLeft();
        turnStaysWithALawToldSince();
        shownByPoneAndDealer();
        shownByTheLawOfNow();
        pegsUpTo9999();
        pegsOfAJackUpTo9999();
        pegsOfPlaysUpTo9999();
        rubbersUpTo9999();
        sixteenAreKept();
        whatUndoLeaves();
        Checks.end("DealTest");
    }

    // ---- DEAL ----

    /** PONE's six, DEALER's six, the starter, and what s is then. */
    private static final class Drawn {
        final List<Integer> pone = new ArrayList<>();
        final List<Integer> dealer = new ArrayList<>();
        int starter;
        long s;

        Drawn(long seed) {
            s = seed;
            List<Integer> pack = new ArrayList<>();
            for (int card = 0; card < 52; card++) {
                pack.add(card);
            }
            for (int i = 0; i < 6; i++) {
                pone.add(draw(pack));
                dealer.add(draw(pack));
            }
            starter = draw(pack);
            pone.sort(null);
            dealer.sort(null);
        }

        private int draw(List<Integer> pack) {
            s = (s * 1103 + 12345) % 1000003;
            return pack.remove((int) (s % pack.size()));
        }
    }

    private static void handIs(CribbageRoom x, int player, List<Integer> cards) {
        for (int k = 0; k < 6; k++) {
            Checks.due("card " + k + " of " + player, x.hand(player, 1 + k), k < cards.size() ? cards.get(k) : -1);
        }
    }

    private static void drawsOfADeal() {
        for (int seed : new int[] {0, 1, 2, 5, 51, 52, 999, 1000, 500000, 906, 907, 999998, 999999, 1000000}) {
            Drawn drawn = new Drawn(seed);
            CribbageRoom x = new CribbageRoom();
            Checks.due("deal(" + seed + ")", x.deal(seed), drawn.starter);
            Checks.due("STARTER", x.count(2), drawn.starter);
            handIs(x, 1, drawn.pone);
            handIs(x, 0, drawn.dealer);
        }
    }

    private static void dealsInTurns() {
        CribbageRoom x = new CribbageRoom();
        Checks.rule(x, "bars");
        Checks.due("DEALER at first", x.count(1), 1);
        for (int i = 0; i < 5; i++) {
            Drawn drawn = new Drawn(100 + i);
            Checks.due("deal", x.deal(100 + i), drawn.starter);
            Checks.due("DEALER", x.count(1), i % 2);
            Checks.due("DEAL", x.count(19), i + 1);
            handIs(x, 1 - i % 2, drawn.pone);
            handIs(x, i % 2, drawn.dealer);
            Checks.orders(x, "lay card 0 by 0 times 2; lay card 6 by 1 times 2; show");
        }
    }

    private static void dealInPhases() {
        CribbageRoom x = new CribbageRoom();
        Checks.due("in PHASE 0", x.deal(5), 14);
        Checks.due("PHASE", x.count(0), 1);
        Checks.due("in PHASE 1", x.deal(5), -3);
        Checks.layAll(x);
        Checks.due("PHASE", x.count(0), 2);
        Checks.due("in PHASE 2", x.deal(5), -3);
        Rooms.playAll(x);
        Checks.due("in PHASE 2, nobody's TURN", x.deal(5), -3);
        x.show();
        Checks.due("PHASE", x.count(0), 3);
        Checks.due("in PHASE 3", x.deal(5), 14);
        Checks.due("PHASE", x.count(0), 1);
    }

    private static void dealUpTo999() {
        CribbageRoom x = new CribbageRoom();
        x.terms(0, 998);
        Checks.due("the next is 999", x.deal(5), 14);
        Checks.due("DEAL", x.count(19), 999);
        Checks.layAll(x);
        Rooms.playAll(x);
        Checks.due("it is shown as others are", x.show(), 26);
        Checks.due("at 999 it can't be", x.deal(5), -3);
        Checks.due("PHASE", x.count(0), 3);
        Checks.due("orders can't, either", Checks.orders(x, "deal 5"), -3);
        x.terms(0, 998);
        Checks.due("at 998 it can", x.deal(5), 14);
    }

    private static void aDealClears() {
        CribbageRoom x = Rooms.shown();
        x.deal(9);
        Checks.due("the crib is empty", x.count(3), 0);
        Checks.due("COUNT", x.count(4), 0);
        Checks.due("LINE", x.count(5), 0);
        Checks.due("TURN", x.count(6), -1);
        Checks.due("LAST", x.count(7), -1);
        Checks.due("HELD stay", x.count(8), 6);
        Checks.due("PEGS stay", x.hand(0, 7), 29);
        int in = 0;
        for (int card = 0; card < 52; card++) {
            Checks.due("played " + card, x.card(card, 3), 0);
            in += x.card(card, 2) >= 0 ? 1 : 0;
        }
        Checks.due("thirteen have a place", in, 13);
    }

    // ---- LAY ----

    private static void handsOfMoreThanFour() {
        CribbageRoom x = Checks.dealt();
        Checks.due("of six", x.lay(0, 0), 1);
        Checks.due("five are left", x.hand(0, 0), 5);
        Checks.due("of five", x.lay(7, 0), 2);
        Checks.due("four are left", x.hand(0, 0), 4);
        Checks.due("of four", x.lay(8, 0), -3);
        Checks.due("four are left", x.hand(0, 0), 4);
        Checks.due("the other one's six", x.lay(9, 1), 3);
        Checks.due("PHASE", x.count(0), 1);
        Checks.due("the other one's five", x.lay(15, 1), 4);
        Checks.due("PHASE", x.count(0), 2);
        for (int card : new int[] {0, 7, 9, 15}) {
            Checks.due("in the crib " + card, x.card(card, 2), 2);
        }
    }

    /** Whoever lays last, PONE is the first whose TURN it is; it is PHASE 2 at the fourth alone. */
    private static void theLastToLay() {
        int[][] orders = {{45, 46, 0, 21}, {0, 21, 45, 46}, {0, 45, 21, 46}, {45, 0, 46, 21}};
        for (int[] order : orders) {
            CribbageRoom x = Checks.dealt();
            for (int i = 0; i < 4; i++) {
                Checks.due("PHASE", x.count(0), 1);
                Checks.due("TURN", x.count(6), -1);
                Checks.due("lay", x.lay(order[i], order[i] >= 45 ? 1 : 0), i + 1);
            }
            Checks.due("PHASE", x.count(0), 2);
            Checks.due("TURN", x.count(6), 1);
            Checks.due("COUNT", x.count(4), 0);
            Checks.due("LINE", x.count(5), 0);
            Checks.due("LAST", x.count(7), -1);
        }
    }

    /** 2 for DEALER at the fourth card laid, by RANK 10 alone. */
    private static void jackAsStarter() {
        int[] ranks = new int[13];
        for (int seed = 0; seed < 200; seed++) {
            CribbageRoom x = new CribbageRoom();
            int starter = x.deal(seed);
            if (ranks[starter / 4]++ > 1) {
                continue;
            }
            x.lay(x.hand(0, 1), 0);
            x.lay(x.hand(0, 1), 0);
            x.lay(x.hand(1, 1), 1);
            Checks.due("not yet", x.hand(0, 7), 0);
            Checks.due("four in the crib", x.lay(x.hand(1, 1), 1), 4);
            Checks.due("DEALER by " + starter, x.hand(0, 7), starter / 4 == 10 ? 2 : 0);
            Checks.due("PONE by " + starter, x.hand(1, 7), 0);
        }
        for (int rank = 0; rank < 13; rank++) {
            Checks.isSo("a starter of rank " + rank, ranks[rank] > 0);
        }
        // The second deal's DEALER is 1: seed 36 has the starter 43.
        CribbageRoom y = new CribbageRoom();
        Checks.rule(y, NOTHING + "; bars");
        Checks.orders(y, "deal 0; lay card 0 by 0 times 2; lay card 6 by 1 times 2; show; deal 36");
        Checks.due("starter", y.count(2), 43);
        Checks.orders(y, "lay card 0 by 0 times 2; lay card 6 by 1 times 2");
        Checks.due("1 has 2", y.hand(1, 7), 2);
        Checks.due("0 has none", y.hand(0, 7), 0);
        Checks.due("2 are taken back", y.undo() + y.hand(1, 7), 1);
    }

    private static CribbageRoom laidBy(String law) {
        CribbageRoom x = Checks.dealt();
        Checks.rule(x, law);
        Checks.layAll(x);
        return x;
    }

    /** PONE's ranks are 2 3 5 6, DEALER's 1 2 2 3. */
    private static void whoseTurnAtFirst() {
        Checks.due("PONE's", laidBy("value 31").count(6), 1);
        Checks.due("PONE's by one card", laidBy("bars if not rank=6").count(6), 1);
        Checks.due("DEALER's, if PONE's are barred", laidBy("bars if not rank=1").count(6), 0);
        Checks.due("nobody's, if all are", laidBy("bars").count(6), -1);
        CribbageRoom none = laidBy("bars");
        Checks.due("PHASE", none.count(0), 2);
        Checks.due("it can be shown", none.show(), 26);
    }

    // ---- PLAY ----

    private static void plays(String law, int[] cards, int... due) {
        CribbageRoom x = laidBy(law);
        play(x, law, cards, due);
    }

    /** Each card by whose TURN it is. */
    private static void play(CribbageRoom x, String what, int[] cards, int... due) {
        for (int i = 0; i < cards.length; i++) {
            int player = x.count(6);
            int pegs = player < 0 ? 0 : x.hand(player, 7);
            Checks.due(what + ": play " + (i + 1) + ", " + cards[i], x.play(cards[i], player), due[i]);
            Checks.due(what + ": its PEGS", player < 0 ? 0 : x.hand(player, 7) - pegs, Math.max(0, due[i]));
        }
    }

    private static void countUpTo31() {
        CribbageRoom x = Rooms.thirtyTwoAhead();
        Checks.due("16 and 16", x.play(13, 0), -3);
        Checks.due("COUNT", x.count(4), 16);
        Checks.due("16 and 15: 2 for 31, no more for the last", x.play(7, 0), 2);
        Checks.due("COUNT", x.count(4), 0);
        CribbageRoom y = laidBy("value 16; value 14 if rank=1; " + NOTHING);
        y.play(24, 1);
        Checks.due("16 and 14: 1 for the last", y.play(7, 0), 1);
        CribbageRoom z = laidBy("value 15; " + NOTHING);
        z.play(24, 1);
        z.play(13, 0);
        Checks.due("30: COUNT begins anew", z.count(4), 0);
        Checks.due("LAST has 1", z.hand(0, 7), 1);
        Checks.due("the other one's TURN", z.count(6), 1);
        // 31 by one card of its VALUE; every card is played so.
        CribbageRoom w = laidBy("value 31; " + NOTHING);
        for (int i = 0; i < 4; i++) {
            Checks.due("31", w.play(Rooms.PONE_PLAYS[i], 1), 2);
            Checks.due("31", w.play(Rooms.DEALER_PLAYS[i], 0), 2);
        }
        Checks.due("nobody's", w.count(6), -1);
        Checks.due("LAST", w.count(7), 0);
    }

    private static void targetAnd31() {
        CribbageRoom x = laidBy("value 31");
        x.terms(3, 31);
        Checks.due("2 for the TARGET of 31, 2 for 31", x.play(24, 1), 4);
        CribbageRoom y = laidBy("value 30");
        y.terms(3, 30);
        Checks.due("2 for the TARGET of 30, 1 for the last", y.play(24, 1), 3);
        CribbageRoom z = laidBy("value 31; fifteen 0");
        z.terms(3, 30);
        Checks.due("31 is not that TARGET", z.play(24, 1), 2);
    }

    private static void targetFrom5() {
        CribbageRoom x = laidBy("value 5");
        x.terms(3, 5);
        Checks.due("5 by the first card", x.play(24, 1), 2);
        CribbageRoom y = laidBy("value 4");
        y.terms(3, 5);
        Checks.due("4 is not 5", y.play(24, 1), 0);
        Checks.due("8 is not 5", y.play(13, 0), 0);
    }

    /** Seed 211, 5 and 7 PONE's, 4 and 6 DEALER's, all of RANK 1: pairs of two, three, four. */
    private static void pairsInPlay() {
        for (String law : new String[] {"run 0", "pair 10"}) {
            CribbageRoom x = new CribbageRoom();
            x.deal(211);
            Checks.rule(x, law);
            for (int card : new int[] {2, 43}) {
                x.lay(card, 1);
            }
            for (int card : new int[] {38, 50}) {
                x.lay(card, 0);
            }
            int two = law.equals("run 0") ? 2 : 10;
            play(x, law, new int[] {5, 4, 7, 6, 25}, 0, two, 3 * two, 6 * two, 2);
        }
        // 3 4 3: the last two have not one RANK.
        plays("value 1; run 0", new int[] {9, 13, 15, 8}, 0, 0, 2, 0);
        // 3 3 4 4 3: two at most each time.
        plays("value 1; run 0", new int[] {9, 8, 15, 13, 24}, 0, 2, 0, 2, 0);
    }

    private static CribbageRoom eightRanks(String law) {
        CribbageRoom x = new CribbageRoom();
        x.deal(4);
        Checks.rule(x, law);
        x.lay(13, 1);
        x.lay(27, 1);
        x.lay(1, 0);
        x.lay(38, 0);
        return x;
    }

    /** Seed 4: PONE has the RANKS 7 9 10 11, DEALER 5 6 8 12. */
    private static void runsInPlay() {
        // 9 8 7 6 10 5 11 12: from the third on a run of all.
        play(eightRanks("value 1"), "runs", new int[] {37, 35, 29, 24, 41, 21, 45, 51}, 0, 0, 3, 4, 5, 6, 7, 9);
        play(eightRanks("value 1; run size*10"), "runs of ten times", new int[] {37, 35, 29, 24, 41, 21, 45, 51}, 0, 0, 30, 40, 50, 60, 70, 81);
    }

    private static void runOnlyKnownWithMore() {
        // 7 5 9 6 10 8: no run of 3, 4, 5 behind 8, but one of six.
        play(eightRanks("value 1"), "a run of six", new int[] {29, 21, 37, 24, 41, 35, 45, 51}, 0, 0, 0, 0, 0, 6, 7, 9);
        // 9 5 7 6: 5 7 6 is one of three. 9 5 7 6 10 is none, 8 makes six of them.
        play(eightRanks("value 1"), "three, then six", new int[] {37, 21, 29, 24, 41, 35}, 0, 0, 0, 3, 0, 6);
        // Two only: 11 12.
        play(eightRanks("value 1"), "two are none", new int[] {45, 51, 37}, 0, 0, 0);
        // 10 12 11: three in whatever order; 9 8 go on with 10 .. 12 only both.
        play(eightRanks("value 1"), "11 in the middle", new int[] {41, 51, 45, 35, 37}, 0, 0, 3, 0, 5);
    }

    /** Seed 5: PONE has 3 4 6 7, DEALER 2 3 3 4. */
    private static void noRunThroughAPair() {
        // 4 2 3 is one, 4 2 3 3 is none; then 4: 3 4 is none with two threes ahead.
        plays("value 1; pair 0", new int[] {15, 7, 9, 8, 23}, 0, 0, 3, 0, 0);
        // 3 3 4: none, and 3 4 2 behind the pair is one.
        plays("value 1; pair 0", new int[] {9, 8, 15, 7}, 0, 0, 0, 3);
        // 3 4 4 3: none; 3 2: none.
        plays("value 1; pair 0", new int[] {9, 13, 15, 8, 23, 7}, 0, 0, 0, 0, 0, 0);
    }

    /** COUNT is 16, none can go on: 3 3 behind that is no pair, the LINE is one long. */
    private static void lineSinceCountWas0() {
        CribbageRoom x = laidBy("value 16; pair 50; fifteen size");
        x.terms(3, 16);
        Checks.due("a line of one, the last", x.play(9, 1), 2);
        Checks.due("LINE", x.count(5), 0);
        Checks.due("a line of one again, no pair", x.play(8, 0), 2);
        Checks.due("LAST", x.count(7), 0);
        CribbageRoom y = laidBy("value 10; pair 0");
        Checks.due("4", y.play(15, 1), 0);
        Checks.due("2", y.play(7, 0), 0);
        Checks.due("LINE", y.count(5), 2);
        // 3 makes a run of three, and 30: 1 for the last.
        Checks.due("3", y.play(9, 1), 4);
        Checks.due("LINE", y.count(5), 0);
        Checks.due("4 2 3 were a run; 3 alone is none", y.play(8, 0), 0);
        Checks.due("LINE", y.count(5), 1);
    }

    private static void oneGoesOn() {
        // DEALER's are barred: PONE plays on.
        CribbageRoom x = laidBy("bars if rank>0 and rank<4; " + NOTHING);
        Checks.due("TURN", x.count(6), 1);
        Checks.due("7", x.play(24, 1), 0);
        Checks.due("PONE's again", x.count(6), 1);
        Checks.due("LAST", x.count(7), 1);
        Checks.due("6, and the last", x.play(23, 1), 1);
        Checks.due("nobody's", x.count(6), -1);
        // COUNT is 27 by 7 and 20: DEALER can't, PONE can by 4.
        CribbageRoom y = laidBy("value 20 if suit=2 or rank=1; " + NOTHING);
        y.play(24, 1);
        Checks.due("27", y.play(10, 0), 0);
        Checks.due("COUNT", y.count(4), 27);
        Checks.due("PONE's, by 3 or 4", y.count(6), 1);
        Checks.due("30", y.play(9, 1), 1);
        Checks.due("COUNT", y.count(4), 0);
        Checks.due("the other one's than the last", y.count(6), 0);
    }

    private static void oneForTheLast() {
        // All of a VALUE of 10: three, then 30; the fourth begins anew.
        CribbageRoom x = laidBy("value 10; " + NOTHING);
        play(x, "tens", new int[] {24, 13, 15, 8, 9, 10, 23, 7}, 0, 0, 1, 0, 0, 1, 0, 1);
        Checks.due("nobody's", x.count(6), -1);
        Checks.due("PONE", x.hand(1, 7), 1);
        Checks.due("DEALER", x.hand(0, 7), 2);
        // Only PONE has cards that can be: behind COUNT 0 it is LAST's TURN.
        CribbageRoom y = laidBy("value 20; bars if rank>0 and rank<4; " + NOTHING);
        Checks.due("20, the last", y.play(24, 1), 1);
        Checks.due("LAST's", y.count(6), 1);
        Checks.due("COUNT", y.count(4), 0);
        Checks.due("20, the last again", y.play(23, 1), 1);
        Checks.due("nobody's", y.count(6), -1);
        // The same at 31.
        CribbageRoom z = laidBy("value 31; bars if rank>0 and rank<4; " + NOTHING);
        Checks.due("31", z.play(24, 1), 2);
        Checks.due("LAST's", z.count(6), 1);
        Checks.due("31", z.play(23, 1), 2);
    }

    /** 0, the lowest of all cards, and 51, the highest, are played as others are: seed 5 has 0, seed 4 51 for DEALER. */
    private static void theFirstAndTheLastCard() {
        CribbageRoom x = Checks.dealt();
        Checks.rule(x, "bars if not rank=0 and not rank=6; " + NOTHING);
        for (int card : new int[] {45, 46}) {
            x.lay(card, 1);
        }
        x.lay(21, 0);
        x.lay(13, 0);
        Checks.due("7", x.play(24, 1), 0);
        Checks.due("DEALER's, by 0 alone", x.count(6), 0);
        Checks.due("to the end", x.toEnd(0), 1);
        Checks.due("by 0", x.toEnd(1), 0);
        Checks.due("0, the last", x.play(0, 0), 1);
        Checks.due("played", x.card(0, 3), 1);
        Checks.due("nobody's", x.count(6), -1);
        CribbageRoom y = Checks.dealt();
        Checks.rule(y, "fifteen 0; run 0; flush 0; nob 0; pair 50");
        y.lay(45, 1);
        y.lay(46, 1);
        y.lay(21, 0);
        y.lay(13, 0);
        Checks.due("PONE's 3", y.play(9, 1), 0);
        Checks.due("DEALER has 0 7 8 10: a pair of threes is the best", y.toEnd(1), 8);
        Checks.due("by 10 as well", y.play(10, 0), 50);
        Checks.due("with 0 in the hand", y.play(24, 1), 0);
        Checks.due("8", y.play(8, 0), 0);
        Checks.due("4", y.play(15, 1), 0);
        Checks.due("2", y.play(7, 0), 0);
        Checks.due("6", y.play(23, 1), 0);
        Checks.due("0 is left: 29 by an ace, the last", y.toEnd(1), 0);
        Checks.due("0", y.play(0, 0), 1);
        CribbageRoom z = eightRanks("bars if not rank=12 and not rank=7; " + NOTHING);
        Checks.due("8", z.play(29, 1), 0);
        Checks.due("by 51", z.toEnd(1), 51);
        Checks.due("51, the last", z.play(51, 0), 1);
    }

    private static void nobodyWithCardsLeft() {
        CribbageRoom x = laidBy("bars if not rank=6 and not rank=1");
        Checks.due("7", x.play(24, 1), 0);
        Checks.due("2, the last", x.play(7, 0), 1);
        Checks.due("nobody's", x.count(6), -1);
        Checks.due("three are left", x.hand(0, 8), 3);
        Checks.due("three are left", x.hand(1, 8), 3);
        Checks.due("COUNT", x.count(4), 0);
        Checks.due("LAST", x.count(7), 0);
        x.force(-1);
        Checks.due("nobody's, though they could be played now", x.count(6), -1);
        Checks.due("so none can", x.play(9, 1), -3);
        Checks.due("so none can", x.play(8, 0), -3);
        Checks.due("shown", x.show(), 26);
    }

    private static void turnStaysWithALawToldSince() {
        CribbageRoom x = Checks.laid();
        Checks.rule(x, "bars if suit=3 or suit=1 or suit=0");
        Checks.due("PONE's still", x.count(6), 1);
        for (int card : new int[] {9, 15, 23, 24}) {
            Checks.due("none can be played", x.play(card, 1), -3);
        }
        Checks.due("not shown", x.show(), -3);
        Checks.due("not the other one's", x.play(10, 0), -3);
        x.force(-1);
        Checks.due("played", x.play(24, 1), 0);
        x.terms(3, 11);
        Checks.due("by the TARGET of now", x.play(13, 0), 2);
    }

    // ---- SHOW ----

    private static void shownByPoneAndDealer() {
        // 100 for PONE's is cut to 99; flushes, runs and fifteens aside, each part goes to whose it is.
        CribbageRoom x = laidBy(NOTHING + "; bars; pair 7");
        Checks.due("PONE's 4 4, DEALER's 3 3 and 4 4, the crib's queens", x.show(), 4 * 7);
        Checks.due("PONE", x.hand(1, 7), 7);
        Checks.due("DEALER", x.hand(0, 7), 21);
        CribbageRoom y = laidBy(NOTHING + "; bars; pair 7 if crib=1; pair 5 if crib=0");
        Checks.due("as a hand, a hand, a crib", y.show(), 5 + 10 + 7);
        Checks.due("PONE", y.hand(1, 7), 5);
        Checks.due("DEALER", y.hand(0, 7), 17);
        CribbageRoom z = laidBy(NOTHING + "; bars");
        Checks.due("nothing counts", z.show(), 0);
        Checks.due("PHASE", z.count(0), 3);
        Checks.due("once", z.show(), -3);
    }

    private static void shownByTheLawOfNow() {
        CribbageRoom x = Rooms.played();
        x.force(Checks.law(x, NOTHING + "; pair 9"));
        Checks.due("by the law put in force since", x.show(), 4 * 9);
        CribbageRoom y = Rooms.played();
        y.terms(3, 31);
        // Pairs 2, pairs and runs 4 and 12; the crib's 1 6 10 10 with 4 are a pair, and 31 by all five.
        Checks.due("by the TARGET told since", y.show(), 2 + 4 + 12 + 2 + 2);
        CribbageRoom z = Rooms.played();
        z.force(Checks.law(z, NOTHING + "; pair deal*10+mood"));
        z.terms(0, 3);
        z.terms(2, 1);
        Checks.due("by DEAL and MOOD of now", z.show(), 4 * 31);
    }

    // ---- PEGS ----

    private static final String DEALT_OUT = "deal %d;lay card 0 by 0 times 2;lay card 6 by 1 times 2;show;";

    /**
     * Behind DEAL 8 0 has 9,910 and n PEGS, 1 has 9,410 and 2 n; 1 was DEALER. All VALUES are 5, all are barred: each four
     * with its starter has ten fifteens of three, by a TARGET of 25 one of five. Seeds 0 .. 9 have no jack as starter.
     */
    private static CribbageRoom rich(int n) {
        CribbageRoom x = new CribbageRoom();
        Checks.rule(x, "value 5; pair 0; run 0; flush 0; nob 0; bars; fifteen 99; fifteen 50 if deal=7; fifteen " + n + " if deal=8; fifteen 0 if deal=9;"
            + "fifteen 1 if deal>9");
        for (int i = 0; i < 6; i += 3) {
            Checks.orders(x, String.format(DEALT_OUT + DEALT_OUT + DEALT_OUT, i, i + 1, i + 2).replaceAll(";$", ""));
        }
        Checks.due("six deals, 0", x.hand(0, 7), 3 * 1980 + 3 * 990);
        Checks.due("six deals, 1", x.hand(1, 7), 3 * 1980 + 3 * 990);
        oneDeal(x, 6);
        x.terms(3, 25);
        oneDeal(x, 7);
        Checks.due("0 has", x.hand(0, 7), Math.min(9999, 9910 + n));
        Checks.due("1 has", x.hand(1, 7), 9410 + 2 * n);
        return x;
    }

    private static void oneDeal(CribbageRoom x, int seed) {
        Checks.due("a deal", Checks.orders(x, String.format(DEALT_OUT, seed).replaceAll(";$", "")), 6);
    }

    private static void pegsUpTo9999() {
        CribbageRoom x = rich(88);
        oneDeal(x, 8);
        Checks.due("nothing counts in deal 9", x.hand(0, 7), 9998);
        oneDeal(x, 9);
        Checks.due("1 more", x.hand(0, 7), 9999);
        Checks.due("2 more", x.hand(1, 7), 9410 + 176 + 2);
        Checks.orders(x, String.format(DEALT_OUT, 10).replace("show;", "show if 1=2"));
        Checks.due("what counted is told, though it is cut off", x.show(), 3);
        Checks.due("9,999 at most", x.hand(0, 7), 9999);
        Checks.due("the other one's are not cut", x.hand(1, 7), 9410 + 176 + 3);
        Checks.due("undo()", x.undo(), 3);
        Checks.due("as it was", x.hand(0, 7), 9999);
        Checks.due("as it was", x.hand(1, 7), 9410 + 176 + 2);
        Checks.due("9,910 and 89", rich(89).hand(0, 7), 9999);
        Checks.due("9,910 and 90", rich(90).hand(0, 7), 9999);
    }

    private static void pegsOfAJackUpTo9999() {
        for (int n = 87; n <= 89; n++) {
            CribbageRoom x = rich(n);
            x.deal(36);
            Checks.due("a jack", x.count(2), 43);
            Checks.orders(x, "lay card 0 by 0 times 2; lay card 6 by 1 times 2");
            Checks.due("DEALER with " + (9910 + n) + " and 2", x.hand(0, 7), 9999);
            Checks.due("undo()", x.undo(), 1);
            Checks.due("as it was", x.hand(0, 7), 9910 + n);
        }
        CribbageRoom y = rich(86);
        y.deal(36);
        Checks.orders(y, "lay card 0 by 0 times 2; lay card 6 by 1 times 2");
        Checks.due("9,996 and 2", y.hand(0, 7), 9998);
    }

    private static void pegsOfPlaysUpTo9999() {
        for (int n = 82; n <= 89; n++) {
            CribbageRoom x = rich(n);
            x.force(-1);
            x.terms(3, 15);
            x.deal(5);
            Checks.layAll(x);
            CribbageRoom poor = Checks.laid();
            for (int i = 0; i < 8; i++) {
                int card = i % 2 == 0 ? Rooms.PONE_PLAYS[i / 2] : Rooms.DEALER_PLAYS[i / 2];
                Checks.due("to the end, not cut", x.toEnd(0), poor.toEnd(0));
                Checks.due("to the end by", x.toEnd(1), poor.toEnd(1));
                Checks.due("what is cut off is told, too", x.play(card, 1 - i % 2), poor.play(card, 1 - i % 2));
                Checks.due("0's PEGS", x.hand(0, 7), Math.min(9999, 9910 + n + poor.hand(0, 7)));
                Checks.due("1's PEGS", x.hand(1, 7), 9410 + 2 * n + poor.hand(1, 7));
            }
        }
    }

    /** Seed 5 with 0 as DEALER: 19 for 0, 4 for 1. */
    private static void rubbersUpTo9999() {
        int[] n = {69, 70, 71, 88, 89};
        for (int i = 0; i < n.length; i++) {
            CribbageRoom x = rich(n[i]);
            x.force(-1);
            x.terms(3, 15);
            int more = Math.min(19, 89 - n[i]);
            Checks.due("rubbers(5, 1) with " + (9910 + n[i]), x.rubbers(5, 1), more + 4);
            Checks.due("0", x.drawn(0), 9910 + n[i] + more);
            Checks.due("1", x.drawn(1), 9410 + 2 * n[i] + 4);
            Checks.due("on paper", x.hand(0, 7), 9910 + n[i]);
        }
    }

    // ---- What can be undone ----

    private static void sixteenAreKept() {
        CribbageRoom x = Rooms.shown();
        Checks.due("fourteen", x.count(11), 14);
        x.deal(9);
        Checks.due("fifteen", x.count(11), 15);
        x.lay(x.hand(0, 1), 0);
        Checks.due("sixteen", x.count(11), 16);
        x.lay(x.hand(0, 1), 0);
        Checks.due("sixteen are kept", x.count(11), 16);
        int[] kinds = {1, 1, 0, 3, 2, 2, 2, 2, 2, 2, 2, 2, 1, 1, 1, 1};
        for (int i = 0; i < 16; i++) {
            Checks.due("undo " + i, x.undo(), kinds[i]);
            Checks.due("are left", x.count(11), 15 - i);
        }
        Checks.due("the first deal is not", x.undo(), -3);
        Checks.due("it stands", x.count(0), 1);
        Checks.due("six", x.hand(0, 0), 6);
        // Orders: more than sixteen in one text.
        CribbageRoom y = new CribbageRoom();
        Checks.rule(y, "bars");
        Checks.due("eighteen", Checks.orders(y, String.format(DEALT_OUT + DEALT_OUT + DEALT_OUT, 1, 2, 3).replaceAll(";$", "")), 18);
        Checks.due("sixteen are kept", y.count(11), 16);
        int[] deal = {3, 1, 1, 1, 1, 0};
        for (int i = 0; i < 16; i++) {
            Checks.due("undo " + i, y.undo(), deal[i % 6]);
        }
        Checks.due("no more", y.undo(), -3);
        Checks.due("the first deal and one laid", y.count(3), 1);
        Checks.due("DEAL", y.count(19), 1);
    }

    private static void whatUndoLeaves() {
        CribbageRoom x = new CribbageRoom();
        x.terms(1, 4);
        x.terms(2, 5);
        x.terms(3, 21);
        x.deal(5);
        x.hold(3);
        x.seen(1, 1);
        Checks.law(x, "value 9");
        x.force(0);
        Checks.write(x, "abc");
        x.image(1);
        x.rubbers(5, 1);
        Checks.due("undo()", x.undo(), 0);
        Checks.due("status", x.status(), 0);
        int[] due = {0, 1, -1, 0, 0, 0, -1, -1, 1, 1, 1, 0, 3};
        for (int what = 0; what < due.length; what++) {
            Checks.due("count(" + what + ")", x.count(what), due[what]);
        }
        int[] terms = {0, 0, 4, 5, 21};
        for (int i = 0; i < terms.length; i++) {
            Checks.due("count(" + (18 + i) + ")", x.count(18 + i), terms[i]);
        }
        Checks.due("held", x.card(3, 4), 1);
        Checks.due("value", x.card(3, 0), 9);
        Checks.due("drawn", x.drawn(0) >= 0 ? 1 : 0, 1);
        Checks.due("the same deal again", x.deal(5), 14);
        CribbageRoom y = new CribbageRoom();
        y.terms(0, 40);
        y.deal(5);
        Checks.due("DEAL", y.count(19), 41);
        y.undo();
        Checks.due("DEAL is as it was", y.count(19), 40);
    }
}
