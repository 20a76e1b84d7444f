import java.util.ArrayList;
import java.util.List;

/** Promises 19 to 32 at their edges, and what Terms III say is COUNTED: how many are HELD, the numbers that can be, ties, nothing at all. */
public final class CountTest {
    private static final String NOTHING = "fifteen 0; pair 0; run 0; flush 0; nob 0";
    private static final int[] SIX = {0, 16, 17, 18, 43, 49};

    public static void main(String[] args) {
        howManyAreHeld();
        numbersThatCantBe();
        holdUpToSix();
        dropOfNoneAndSix();
        twoOrMoreMakeAFifteen();
        targetsOfFifteens();
        pairsOfFive();
        runsOfFive();
        flushesOfFive();
        nobs();
        keptOfSix();
        keptEachOfFifteen();
        keptTheFirstTwo();
        cribOfNothingHeld();
        cribOfWithHeld();
        byStartersBounds();
        startersOfAHand();
        bestStarterTheLowest();
        toEndOfMinus1000();
        toEndOfOneCard();
        toEndInPhases();
        toEndByLawsToldSince();
        seenUpToSix();
        seenOfOtherCards();
        canBeInOrder();
        canBeNoneOrAll();
        askTheLowest();
        askOfOneOrNone();
        fewBounds();
        fewByDeals();
        compareBounds();
        Checks.end("CountTest");
    }

    private static CribbageRoom holding(int... cards) {
        CribbageRoom x = new CribbageRoom();
        Checks.hold(x, cards);
        return x;
    }

    private static CribbageRoom byLaw(String law, int... cards) {
        CribbageRoom x = holding(cards);
        Checks.rule(x, law);
        return x;
    }

    // ---- NONE ----

    private static void howManyAreHeld() {
        for (int n = 0; n <= 6; n++) {
            CribbageRoom x = new CribbageRoom();
            for (int i = 0; i < n; i++) {
                x.hold(4 * i);
            }
            boolean four = n == 4;
            boolean six = n == 6;
            // 1 2 3 4 and a jack: 4 for a run of four, 4 for a flush, 1 2 10 ... : 10 3 2 and 10 4 1 are 15, no nob.
            Checks.due(n + " held: counted", x.counted(41, 0, 0), four ? 4 + 4 + 4 : -1);
            Checks.due(n + " held: counted as a crib", x.counted(41, 1, 0), four ? 4 + 4 : -1);
            Checks.due(n + " held: byStarters", x.byStarters(0), four ? 48 : -1);
            Checks.isSo(n + " held: bestStarter", x.bestStarter(0) >= 0 == four && x.bestStarter(1) >= 0 == four);
            Checks.due(n + " held: compare", x.compare(-1, 41), four ? 12 : -1);
            Checks.isSo(n + " held: kept", x.kept(0) >= 0 == six && x.kept(1) >= 0 == six && x.kept(2) >= 0 == six);
            Checks.due(n + " held: canBe", x.canBe(), six ? 32767 : -1);
            Checks.isSo(n + " held: ask", x.ask(0) >= 0 == six && x.ask(1) >= 0 == six);
            Checks.isSo(n + " held: cribOf", x.cribOf(40, 41) > 0);
        }
    }

    private static void numbersThatCantBe() {
        int[] far = {Integer.MIN_VALUE, -2, -1, Integer.MAX_VALUE};
        CribbageRoom x = holding(16, 17, 18, 43);
        CribbageRoom six = holding(SIX);
        CribbageRoom laid = Checks.laid();
        for (int n : far) {
            Checks.due("counted(" + n + ", 0, 0)", x.counted(n, 0, 0), -1);
            Checks.due("counted(19, " + n + ", 0)", x.counted(19, n, 0), -1);
            Checks.due("counted(19, 0, " + n + ")", x.counted(19, 0, n), -1);
            Checks.due("kept(" + n + ")", six.kept(n), -1);
            Checks.due("cribOf(" + n + ", 0)", x.cribOf(n, 0), -1);
            Checks.due("cribOf(0, " + n + ")", x.cribOf(0, n), -1);
            Checks.due("byStarters(" + n + ")", x.byStarters(n), -1);
            Checks.due("bestStarter(" + n + ")", x.bestStarter(n), -1);
            Checks.due("toEnd(" + n + ")", laid.toEnd(n), -1000);
            Checks.due("ask(" + n + ")", six.ask(n), -1);
            Checks.due("few(" + n + ", 1)", x.few(n, 1), -1);
            Checks.due("few(1, " + n + ")", x.few(1, n), -1);
            Checks.due("compare(-1, " + n + ")", x.compare(-1, n), -1);
        }
        Checks.due("counted(52, 0, 0)", x.counted(52, 0, 0), -1);
        Checks.due("counted(19, 2, 0)", x.counted(19, 2, 0), -1);
        Checks.due("counted(19, 0, 6)", x.counted(19, 0, 6), -1);
        Checks.due("counted(19, 1, 5)", x.counted(19, 1, 5), 1);
        Checks.isSo("counted(0, 0, 0), counted(51, 0, 0)", x.counted(0, 0, 0) >= 0 && x.counted(51, 0, 0) >= 0);
        for (int held : new int[] {16, 17, 18, 43}) {
            Checks.due("counted of a starter held", x.counted(held, 0, 0), -1);
            Checks.due("counted of a starter held, as a crib", x.counted(held, 1, 0), -1);
            Checks.due("compare of a starter held", x.compare(-1, held), -1);
        }
        Checks.due("kept(3)", six.kept(3), -1);
        Checks.due("cribOf(52, 0)", x.cribOf(52, 0), -1);
        Checks.due("cribOf(0, 52)", x.cribOf(0, 52), -1);
        Checks.due("cribOf(51, 51)", x.cribOf(51, 51), -1);
        Checks.isSo("cribOf(0, 51), cribOf(51, 0)", x.cribOf(0, 51) > 0 && x.cribOf(0, 51) == x.cribOf(51, 0));
        Checks.due("byStarters(1000)", x.byStarters(1000), -1);
        Checks.due("bestStarter(2)", x.bestStarter(2), -1);
        Checks.due("toEnd(2)", laid.toEnd(2), -1000);
        Checks.due("ask(2)", six.ask(2), -1);
        Checks.due("compare(-1, 52)", x.compare(-1, 52), -1);
        Checks.due("not one of these is refused", x.count(13) + six.count(13) + laid.count(13), 0);
        Checks.due("status", x.status(), 0);
    }

    // ---- HELD ----

    private static void holdUpToSix() {
        CribbageRoom x = new CribbageRoom();
        int[] cards = {0, 51, 26, 1, 50, 25};
        for (int i = 0; i < 6; i++) {
            Checks.due("hold(" + cards[i] + ")", x.hold(cards[i]), i + 1);
            Checks.due("status", x.status(), 0);
            Checks.due("held", x.card(cards[i], 4), 1);
            Checks.due("HELD", x.count(8), i + 1);
        }
        Checks.due("a seventh", x.hold(2), -5);
        Checks.due("one of the six", x.hold(51), -3);
        Checks.due("none of the 52", x.hold(52), -1);
        Checks.due("HELD", x.count(8), 6);
        Checks.due("drop()", x.drop(), 6);
        Checks.due("again", x.hold(2), 1);
        // A card in a hand, the crib, the starter, one that was played: on paper all may be held.
        CribbageRoom y = Rooms.inPlay();
        y.drop();
        int n = 1;
        for (int card : new int[] {24, 7, 45, 14, 1}) {
            Checks.due("hold(" + card + ")", y.hold(card), n++);
        }
    }

    private static void dropOfNoneAndSix() {
        CribbageRoom x = new CribbageRoom();
        Checks.due("none", x.drop(), 0);
        for (int n = 1; n <= 6; n++) {
            for (int i = 0; i < n; i++) {
                x.hold(5 * i);
            }
            Checks.due("drop()", x.drop(), n);
            Checks.due("none is HELD", x.count(8), 0);
            for (int i = 0; i < n; i++) {
                Checks.due("not held " + 5 * i, x.card(5 * i, 4), 0);
            }
        }
    }

    // ---- COUNTED ----

    private static void countedAs(CribbageRoom x, int starter, int crib, int... parts) {
        int all = 0;
        for (int i = 0; i < parts.length; i++) {
            Checks.due("counted(" + starter + ", " + crib + ", " + (i + 1) + ")", x.counted(starter, crib, i + 1), parts[i]);
            all += parts[i];
        }
        Checks.due("counted(" + starter + ", " + crib + ", 0)", x.counted(starter, crib, 0), all);
    }

    private static void fifteens(int target, int due, int starter, int... four) {
        CribbageRoom x = holding(four);
        x.terms(3, target);
        Checks.due("fifteens of TARGET " + target, x.counted(starter, 0, 1), due);
        Checks.due("fifteens of TARGET " + target + " in the crib", x.counted(starter, 1, 1), due);
    }

    private static void twoOrMoreMakeAFifteen() {
        // One card alone is no set, neither of the four nor the starter.
        fifteens(5, 0, 51, 16, 20, 24, 28);
        fifteens(5, 0, 16, 20, 24, 28, 51);
        fifteens(10, 0, 51, 36, 40, 44, 24);
        fifteens(10, 0, 36, 40, 44, 48, 24);
        // Two of the four; one of them with the starter.
        fifteens(10, 2, 51, 16, 17, 28, 32);
        fifteens(10, 2, 17, 16, 28, 32, 33);
        // All five, and four of these.
        fifteens(15, 2, 16, 0, 4, 8, 13);
        fifteens(14, 2, 16, 0, 5, 9, 12);
    }

    private static void targetsOfFifteens() {
        // Four aces and a two: 5 by the two and three aces, in four ways; 6 by all.
        fifteens(5, 8, 4, 0, 1, 2, 3);
        fifteens(6, 2, 4, 0, 1, 2, 3);
        fifteens(7, 0, 4, 0, 1, 2, 3);
        // 10 10 10 1 and 2: 31 once, 30 once, 21 by two tens and 1, 22 by two tens and 2: three each.
        fifteens(31, 2, 4, 36, 40, 44, 0);
        fifteens(30, 2, 4, 36, 40, 44, 0);
        fifteens(21, 6, 4, 36, 40, 44, 0);
        fifteens(22, 6, 4, 36, 40, 44, 0);
        fifteens(29, 0, 4, 36, 40, 44, 0);
        // By a law all are worth 31: none together is.
        CribbageRoom x = byLaw("value 31", 0, 5, 10, 15);
        x.terms(3, 31);
        Checks.due("31 by one is no set", x.counted(50, 0, 1), 0);
        // A starter of 30 with an ace, then an ace as starter with one of 30.
        CribbageRoom w = byLaw("value 30 if rank=12; value 9 if rank=6", 0, 24, 25, 26);
        w.terms(3, 31);
        Checks.due("30 as starter and 1", w.counted(51, 0, 1), 2);
        CribbageRoom v = byLaw("value 30 if rank=12; value 9 if rank=6", 51, 24, 25, 26);
        v.terms(3, 31);
        Checks.due("30 and 1 as starter", v.counted(0, 0, 1), 2);
        CribbageRoom y = byLaw("value 1", 0, 5, 10, 15);
        y.terms(3, 5);
        Checks.due("five ones", y.counted(50, 0, 1), 2);
    }

    private static void pairsOfFive() {
        // 1 2 8 10 and another 10, 1, 8: no fifteen, no run.
        countedAs(holding(0, 5, 29, 37), 45, 0, 0, 0, 0, 0, 0);
        countedAs(holding(0, 1, 29, 37), 45, 0, 0, 2, 0, 0, 0);
        countedAs(holding(0, 5, 29, 37), 1, 0, 0, 2, 0, 0, 0);
        countedAs(holding(0, 1, 29, 37), 2, 0, 0, 6, 0, 0, 0);
        countedAs(holding(0, 1, 29, 37), 28, 0, 0, 4, 0, 0, 0);
        countedAs(holding(0, 1, 2, 3), 32, 0, 0, 12, 0, 0, 0);
        countedAs(holding(0, 1, 2, 32), 3, 0, 0, 12, 0, 0, 0);
        countedAs(holding(0, 1, 2, 32), 33, 1, 0, 8, 0, 0, 0);
    }

    private static void runs(int due, int starter, int... four) {
        CribbageRoom x = holding(four);
        Checks.due("runs in a hand", x.counted(starter, 0, 3), due);
        Checks.due("runs in the crib", x.counted(starter, 1, 3), due);
    }

    private static void runsOfFive() {
        runs(0, 51, 0, 5, 30, 35);
        runs(3, 51, 0, 5, 10, 35);
        runs(3, 10, 0, 5, 30, 51);
        runs(4, 51, 0, 5, 10, 15);
        runs(4, 5, 0, 11, 15, 51);
        runs(5, 17, 0, 5, 10, 15);
        runs(5, 0, 17, 5, 10, 15);
        // Two of one RANK: twice; two and two: four times; three: three times. As many as can be, not those within.
        runs(6, 1, 0, 5, 10, 51);
        runs(6, 4, 0, 5, 10, 51);
        runs(6, 8, 0, 5, 10, 51);
        runs(8, 1, 0, 5, 10, 15);
        runs(8, 9, 0, 5, 10, 15);
        runs(8, 14, 0, 5, 10, 15);
        runs(12, 9, 0, 5, 10, 4);
        runs(12, 9, 0, 1, 5, 10);
        runs(9, 2, 0, 1, 5, 10);
        runs(9, 6, 0, 4, 5, 10);
        // A pair that is none of the run's RANKS, below it, above it.
        runs(3, 28, 0, 1, 20, 24);
        runs(3, 51, 48, 20, 24, 28);
        runs(3, 0, 48, 49, 4, 8);
        runs(3, 40, 1, 36, 45, 2);
        // A king and an ace are no neighbours; a queen, a king and a jack are.
        runs(0, 48, 0, 5, 44, 30);
        runs(3, 48, 0, 41, 46, 5);
        runs(3, 51, 44, 41, 0, 5);
        runs(0, 48, 44, 36, 5, 0);
        // Two and two, apart from one another; 3 4 and 6 7.
        runs(0, 51, 8, 12, 20, 24);
        runs(5, 16, 8, 12, 20, 24);
    }

    private static void flush(int due, int starter, int crib, int... four) {
        Checks.due("flush with " + starter + ", crib " + crib, holding(four).counted(starter, crib, 4), due);
    }

    private static void flushesOfFive() {
        for (int suit = 0; suit < 4; suit++) {
            int[] four = {suit, 8 + suit, 24 + suit, 44 + suit};
            flush(5, 32 + suit, 0, four);
            flush(5, 32 + suit, 1, four);
            flush(4, 32 + (suit + 1) % 4, 0, four);
            flush(0, 32 + (suit + 1) % 4, 1, four);
            // Three of the four with the starter are none.
            int[] three = {suit, 8 + suit, 24 + suit, 44 + (suit + 1) % 4};
            flush(0, 32 + suit, 0, three);
            flush(0, 32 + (suit + 1) % 4, 0, three);
            flush(0, 32 + suit, 1, three);
            int[] otherThree = {(suit + 1) % 4, 8 + suit, 24 + suit, 44 + suit};
            flush(0, 32 + suit, 0, otherThree);
        }
    }

    private static void nobs() {
        for (int suit = 0; suit < 4; suit++) {
            for (int starter = 0; starter < 4; starter++) {
                CribbageRoom x = holding(40 + suit, 3, 12, 29);
                Checks.due("jack " + suit + " with suit " + starter, x.counted(32 + starter, 0, 5), suit == starter ? 1 : 0);
                Checks.due("in the crib, too", x.counted(32 + starter, 1, 5), suit == starter ? 1 : 0);
                Checks.due("of four jacks", holding(40, 41, 42, 43).counted(32 + starter, 0, 5), 1);
            }
            // The starter is none; a ten, a queen of its suit are none.
            Checks.due("a jack as starter", holding(36 + suit, 44 + suit, 12, 29).counted(40 + suit, 0, 5), 0);
            Checks.due("a jack of another suit", holding(40 + (suit + 1) % 4, 44 + suit, 12, 29).counted(40 + suit, 0, 5), 0);
        }
    }

    // ---- KEPT ----

    private static void keptOfSix() {
        int[][] sixes = {SIX, {7, 8, 10, 13, 14, 21}, {40, 41, 44, 45, 48, 49}, {0, 4, 8, 12, 16, 20}, {2, 15, 23, 30, 36, 51}, {0, 1, 2, 3, 50, 51}};
        for (int[] six : sixes) {
            int most = -1;
            int[] best = null;
            for (int i = 0; i < 6; i++) {
                for (int j = i + 1; j < 6; j++) {
                    int together = together(six, i, j);
                    if (together > most) {
                        most = together;
                        best = new int[] {six[i], six[j]};
                    }
                }
            }
            CribbageRoom x = holding(six);
            Checks.due("kept(0)", x.kept(0), most);
            Checks.due("kept(1)", x.kept(1), best[0]);
            Checks.due("kept(2)", x.kept(2), best[1]);
        }
    }

    /** Each of the fifteen is the best by some law: all but two RANKS count by a pair with their starters. */
    private static void keptEachOfFifteen() {
        int[] six = {0, 9, 18, 27, 32, 49};
        for (int i = 0; i < 6; i++) {
            for (int j = i + 1; j < 6; j++) {
                CribbageRoom x = byLaw(NOTHING + "; pair 2; pair 1 if rank=" + six[i] / 4 + " or rank=" + six[j] / 4, six);
                Checks.due("four RANKS by three cards, 2 each", x.kept(0), 24);
                Checks.due("laid away, the lower", x.kept(1), six[i]);
                Checks.due("laid away, the higher", x.kept(2), six[j]);
            }
        }
    }

    private static int together(int[] six, int i, int j) {
        int sum = 0;
        CribbageRoom x = holding(fourOf(six, i, j));
        for (int starter = 0; starter < 52; starter++) {
            boolean held = starter == six[i] || starter == six[j] || x.card(starter, 4) == 1;
            sum += held ? 0 : x.counted(starter, 0, 0);
        }
        return sum;
    }

    private static int[] fourOf(int[] six, int i, int j) {
        List<Integer> four = new ArrayList<>();
        for (int k = 0; k < 6; k++) {
            if (k != i && k != j) {
                four.add(six[k]);
            }
        }
        return four.stream().mapToInt(Integer::intValue).toArray();
    }

    /** Alike are the fours that keep what counts; of these the lower, then the higher card is the lowest. */
    private static void keptTheFirstTwo() {
        int[] six = {0, 5, 10, 15, 20, 25};
        CribbageRoom x = byLaw(NOTHING, six);
        Checks.due("all alike", x.kept(0), 0);
        Checks.due("the lowest", x.kept(1), 0);
        Checks.due("the next", x.kept(2), 5);
        // Of a pair with a starter of a RANK kept: three of each RANK can come.
        CribbageRoom y = byLaw(NOTHING + "; pair 1 if rank=0", six);
        Checks.due("0 is kept", y.kept(1), 5);
        Checks.due("and 10 is laid", y.kept(2), 10);
        Checks.due("three aces can come", y.kept(0), 3);
        CribbageRoom z = byLaw(NOTHING + "; pair 1 if rank=0; pair 1 if rank=2", six);
        Checks.due("0 and 10 are kept", z.kept(1), 5);
        Checks.due("15 is laid", z.kept(2), 15);
        CribbageRoom w = byLaw(NOTHING + "; pair 1 if rank<4", six);
        Checks.due("the four lowest are kept", w.kept(1), 20);
        Checks.due("the two highest are laid", w.kept(2), 25);
        Checks.due("four RANKS of three", w.kept(0), 12);
    }

    // ---- A CRIB of two ----

    private static final String RICH = "value rank+1; fifteen size; pair rank+1; run 7 if size=3; flush suit+9; nob suit*3+1; value 4 if suit=2";

    /** All that can come to it, one by one, as counted() tells; each object is asked for one two alone. */
    private static void cribByHand(String law, int target, int one, int other, int... held) {
        CribbageRoom x = new CribbageRoom();
        Checks.hold(x, held);
        boolean[] out = new boolean[52];
        out[one] = true;
        out[other] = true;
        for (int card : held) {
            out[card] = true;
        }
        x.terms(3, target);
        if (!law.isEmpty()) {
            x.force(Checks.law(x, law));
        }
        long sum = 0;
        for (int a = 0; a < 52; a++) {
            for (int b = a + 1; b < 52; b++) {
                if (out[a] || out[b]) {
                    continue;
                }
                CribbageRoom y = holding(one, other, a, b);
                y.terms(3, target);
                if (!law.isEmpty()) {
                    y.force(Checks.law(y, law));
                }
                for (int starter = 0; starter < 52; starter++) {
                    sum += out[starter] || starter == a || starter == b ? 0 : y.counted(starter, 1, 0);
                }
            }
        }
        Checks.due("cribOf(" + one + ", " + other + ") by TARGET " + target + " '" + law + "'", x.cribOf(one, other), sum);
        Checks.due("cribOf(" + other + ", " + one + ")", x.cribOf(other, one), sum);
    }

    private static void cribOfNothingHeld() {
        cribByHand("", 15, 0, 51);
        cribByHand("", 15, 16, 17);
        cribByHand("", 15, 40, 44);
        cribByHand("", 5, 0, 4);
        cribByHand("", 31, 36, 48);
        cribByHand(RICH, 15, 0, 1);
        cribByHand("value 1", 5, 2, 6);
        cribByHand("value 31", 31, 2, 6);
        for (String law : new String[] {"fifteen 5 if crib=1", "pair 6 if crib=1", "run 7 if crib=1", "flush 8 if crib=1; flush 9 if crib=0", "nob 9 if crib=1"}) {
            cribByHand(law, 15, 0, 8);
            cribByHand(law, 15, 40, 42);
        }
    }

    private static void cribOfWithHeld() {
        cribByHand("", 15, 16, 43, 17, 18, 19, 40, 41, 42);
        cribByHand(RICH, 17, 40, 36, 2, 3, 11, 12, 30, 44);
        cribByHand(RICH, 5, 40, 36, 2, 3, 11, 12, 30, 44);
        cribByHand(RICH, 31, 40, 36, 2, 3, 11, 12, 30, 44);
        // One, then both of the two are HELD themselves.
        cribByHand(RICH, 15, 40, 36, 40, 0, 4);
        cribByHand("", 15, 40, 36, 36, 40, 1, 2, 3, 0);
        cribByHand(RICH, 6, 7, 50, 50);
    }

    // ---- STARTERS ----

    private static void byStartersBounds() {
        CribbageRoom x = holding(16, 17, 18, 43);
        int before = 48;
        for (int n = 0; n <= 30; n++) {
            int many = 0;
            for (int starter = 0; starter < 52 && n % 7 == 1; starter++) {
                many += x.counted(starter, 0, 0) >= n ? 1 : 0;
            }
            int told = x.byStarters(n);
            Checks.isSo("never more by " + n, told <= before && told >= 0);
            Checks.due("byStarters(" + n + ")", told, n % 7 == 1 ? many : told);
            before = told;
        }
        Checks.due("byStarters(0)", x.byStarters(0), 48);
        Checks.due("byStarters(29)", x.byStarters(29), 1);
        Checks.due("byStarters(30)", x.byStarters(30), 0);
        Checks.due("byStarters(999)", x.byStarters(999), 0);
        // Four of one RANK by 99 a pair, ten fifteens of three by 99: 1,584; with others 594 and fifteens.
        CribbageRoom y = byLaw("value 5; fifteen 99; pair 99", 16, 17, 18, 19);
        Checks.due("more than 999, all", y.byStarters(999), 48);
        Checks.due("1,584", y.counted(0, 0, 0), 1584);
        CribbageRoom z = byLaw(NOTHING + "; pair 99; nob 9", 16, 17, 18, 43);
        Checks.due("three pairs by 99: 297 or more", z.byStarters(297), 48);
        Checks.due("298: a nob, a jack, a five", z.byStarters(298), 12 + 3);
        Checks.due("594 and a nob: the five of suit 3", z.byStarters(603), 1);
        Checks.due("604", z.byStarters(604), 0);
    }

    /** Four of a suit, asked as a HAND: a flush without the starter's suit, and crib is 0. */
    private static void startersOfAHand() {
        CribbageRoom x = byLaw("fifteen 0; pair 0; run 0; nob 0", 0, 8, 24, 44);
        Checks.due("a flush of four by all, of five by nine", x.byStarters(4), 48);
        Checks.due("of five", x.byStarters(5), 9);
        Checks.due("the lowest of suit 0", x.bestStarter(0), 4);
        Checks.due("5", x.bestStarter(1), 5);
        CribbageRoom y = byLaw(NOTHING + "; pair 7 if crib=0; pair 9 if crib=1; pair 11 if crib=0-1", 0, 1, 26, 39);
        Checks.due("one pair as a hand", y.byStarters(7), 48);
        Checks.due("two pairs: of 6 and 9, too; three aces", y.byStarters(8), 2 + 3 + 3);
        Checks.due("three pairs at most", y.bestStarter(1), 21);
        Checks.due("the third ace", y.bestStarter(0), 2);
    }

    private static void bestStarterTheLowest() {
        CribbageRoom x = byLaw(NOTHING, 0, 1, 2, 3);
        Checks.due("all alike: the lowest not held", x.bestStarter(0), 4);
        Checks.due("0", x.bestStarter(1), 0);
        CribbageRoom y = byLaw(NOTHING, 1, 2, 3, 51);
        Checks.due("0 is not held", y.bestStarter(0), 0);
        CribbageRoom z = byLaw(NOTHING + "; pair 5", 4, 13, 22, 51);
        Checks.due("the lowest of twelve", z.bestStarter(0), 5);
        CribbageRoom w = byLaw(NOTHING + "; pair 5 if rank=12", 4, 13, 22, 51);
        Checks.due("of three kings", w.bestStarter(0), 48);
        Checks.due("5", w.bestStarter(1), 5);
        CribbageRoom v = byLaw(NOTHING + "; pair 5 if rank=12", 4, 48, 49, 50);
        Checks.due("the last card of all", v.bestStarter(0), 51);
        Checks.due("six pairs", v.bestStarter(1), 30);
    }

    // ---- To the END ----

    /** Seed 278: 11 is PONE's, 8 9 10 DEALER's; no other RANK can be played. 99, 297 and 9, 594 and 1 are 1,000. */
    private static void toEndOfMinus1000() {
        CribbageRoom x = new CribbageRoom();
        x.deal(278);
        Checks.rule(x, "bars if not rank=2; value 5; pair 99; run 0; fifteen 9");
        x.lay(38, 1);
        x.lay(51, 1);
        x.lay(23, 0);
        x.lay(34, 0);
        Checks.due("TURN", x.count(6), 1);
        Checks.due("by 1,000 below", x.toEnd(0), -1000);
        Checks.due("but there is a card", x.toEnd(1), 11);
        Checks.due("play(11, 1)", x.play(11, 1), 0);
        Checks.due("by 1,000 above", x.toEnd(0), 1000);
        Checks.due("the lowest card", x.toEnd(1), 8);
        Checks.due("a pair", x.play(10, 0), 99);
        Checks.due("901 are left", x.toEnd(0), 901);
        Checks.due("the lowest of two", x.toEnd(1), 8);
        Checks.due("three, a fifteen", x.play(9, 0), 306);
        Checks.due("four, the last", x.play(8, 0), 595);
        Checks.due("nobody's turn: there is none", x.toEnd(0), -1000);
        Checks.due("no card", x.toEnd(1), -1000);
    }

    private static void toEndOfOneCard() {
        CribbageRoom x = Checks.laid();
        for (int i = 0; i < 7; i++) {
            x.play(i % 2 == 0 ? Rooms.PONE_PLAYS[i / 2] : Rooms.DEALER_PLAYS[i / 2], 1 - i % 2);
        }
        Checks.due("one card is left: 1 for the last", x.toEnd(0), 1);
        Checks.due("that card", x.toEnd(1), 7);
        CribbageRoom y = Checks.dealt();
        Checks.rule(y, "bars if not rank=6");
        Checks.layAll(y);
        Checks.due("one can be played of all", y.toEnd(0), 1);
        Checks.due("that one", y.toEnd(1), 24);
    }

    private static void toEndInPhases() {
        for (String room : new String[] {"a new room", "dealt", "half laid", "played", "shown", "a full room"}) {
            CribbageRoom x = Rooms.named(room);
            Checks.due(room + ": toEnd(0)", x.toEnd(0), -1000);
            Checks.due(room + ": toEnd(1)", x.toEnd(1), -1000);
        }
        for (String room : new String[] {"laid", "in play", "32 ahead"}) {
            CribbageRoom x = Rooms.named(room);
            Checks.isSo(room + ": toEnd(1)", x.toEnd(1) >= 0);
            Checks.due("a card that can be", x.play(x.toEnd(1), x.count(6)) >= 0 ? 0 : -1, 0);
        }
        // 7 alone can be: 2 for 31. Then PONE 1, DEALER 1, PONE 1, DEALER 1, PONE 1, DEALER 1 by 16 each.
        CribbageRoom x = Rooms.thirtyTwoAhead();
        Checks.due("7 is the only card", x.toEnd(1), 7);
    }

    private static void toEndByLawsToldSince() {
        CribbageRoom x = Checks.laid();
        int before = x.toEnd(0);
        Checks.rule(x, "bars");
        Checks.due("all are barred since", x.toEnd(0), -1000);
        Checks.due("all are barred since", x.toEnd(1), -1000);
        Checks.rule(x, "bars if rank=2 or rank=3 or rank=5 or rank=6");
        Checks.due("PONE's are; DEALER's are not, but it is PONE's TURN", x.toEnd(0), -1000);
        x.force(-1);
        Checks.due("none is", x.toEnd(0), before);
        x.play(24, 1);
        Checks.rule(x, "value 25");
        Checks.due("7 and 25 are above 31", x.toEnd(0), -1000);
        Checks.due("7 and 25 are above 31", x.toEnd(1), -1000);
        Checks.rule(x, "value 24; " + NOTHING);
        Checks.due("7 and 24 are 31: 2, then 1 for each of three and of three", x.toEnd(0), 2 - 1 + 1 - 1 + 1 - 1 + 1);
        Checks.due("the lowest", x.toEnd(1), 7);
    }

    // ---- SEEN, IT CAN BE, ASK ----

    private static void seenUpToSix() {
        CribbageRoom x = new CribbageRoom();
        int[][] seen = {{0, 0}, {51, 999}, {0, 999}, {51, 0}, {0, 0}, {26, 500}};
        for (int i = 0; i < 6; i++) {
            Checks.due("seen", x.seen(seen[i][0], seen[i][1]), i + 1);
            Checks.due("status", x.status(), 0);
            Checks.due("SEEN", x.count(9), i + 1);
        }
        Checks.due("a seventh", x.seen(26, 500), -5);
        Checks.due("SEEN", x.count(9), 6);
        Checks.due("forget()", x.forget(), 6);
        Checks.due("SEEN", x.count(9), 0);
        Checks.due("forget() of none", x.forget(), 0);
        Checks.due("again", x.seen(26, 500), 1);
        Checks.due("forget()", x.forget(), 1);
    }

    /** SEEN is asked of what is HELD whenever that is asked, by the LAW of then. */
    private static void seenOfOtherCards() {
        CribbageRoom x = new CribbageRoom();
        Checks.due("none held, seen all the same", x.seen(19, 29), 1);
        Checks.due("none held", x.canBe(), -1);
        Checks.hold(x, SIX);
        // Laid away are 0 and 49: the fifth of the fifteen.
        Checks.due("0 and 49", x.canBe(), 1 << 4);
        Checks.hold(x, 1, 16, 17, 18, 43, 44);
        Checks.due("1 and 44", x.canBe(), 1 << 4);
        Checks.hold(x, 16, 17, 18, 43, 44, 45);
        Checks.due("the two highest", x.canBe(), 1 << 14);
        Checks.hold(x, 0, 1, 16, 17, 18, 43);
        Checks.due("the two lowest", x.canBe(), 1);
        Checks.hold(x, 16, 17, 18, 19, 43, 44);
        Checks.due("the starter is held", x.canBe(), 0);
        Checks.hold(x, SIX);
        Checks.rule(x, "pair 3");
        Checks.due("six pairs by 3 are 18: 35 in all", x.canBe(), 0);
        x.forget();
        x.seen(19, 35);
        Checks.due("35", x.canBe(), 1 << 4);
    }

    private static void canBeInOrder() {
        int[] six = {3, 16, 22, 24, 29, 43};
        for (int starter : new int[] {0, 19, 30, 51}) {
            int[] counts = new int[15];
            int number = 0;
            for (int i = 0; i < 6; i++) {
                for (int j = i + 1; j < 6; j++) {
                    counts[number++] = holding(fourOf(six, i, j)).counted(starter, 0, 0);
                }
            }
            for (int of = 0; of < 15; of++) {
                int bits = 0;
                for (int k = 0; k < 15; k++) {
                    bits |= counts[k] == counts[of] ? 1 << k : 0;
                }
                CribbageRoom x = holding(six);
                x.seen(starter, counts[of]);
                Checks.due("canBe by " + starter + " counted " + counts[of], x.canBe(), bits);
                x.seen(starter, counts[of]);
                Checks.due("seen twice is no more", x.canBe(), bits);
            }
        }
        // Each of the fifteen alone: kept are cards of RANKS that tell by a pair with a starter of theirs.
        int number = 0;
        int[] ranks = {0, 5, 10, 15, 16, 21};
        for (int i = 0; i < 6; i++) {
            for (int j = i + 1; j < 6; j++) {
                CribbageRoom x = byLaw(NOTHING + "; pair 1", ranks);
                for (int k = 0; k < 6; k++) {
                    // A starter of the same RANK that is not held.
                    x.seen(4 * k + (k + 1) % 4, k == i || k == j ? 0 : 1);
                }
                Checks.due("laid away " + ranks[i] + " and " + ranks[j], x.canBe(), 1 << number);
                Checks.due("one is left", x.ask(1), 1);
                number++;
            }
        }
    }

    private static void canBeNoneOrAll() {
        CribbageRoom x = holding(SIX);
        Checks.due("nothing was seen", x.canBe(), 32767);
        x.seen(19, 999);
        Checks.due("none", x.canBe(), 0);
        x.forget();
        Checks.due("all", x.canBe(), 32767);
        CribbageRoom y = byLaw(NOTHING, SIX);
        y.seen(51, 0);
        Checks.due("all count 0", y.canBe(), 32767);
        y.seen(51, 1);
        Checks.due("none counts 1", y.canBe(), 0);
        CribbageRoom z = byLaw(NOTHING, SIX);
        z.seen(16, 0);
        Checks.due("a starter that is held, though all would count 0", z.canBe(), 0);
        z.drop();
        Checks.hold(z, 0, 1, 2, 3, 4, 5);
        Checks.due("it is not held now", z.canBe(), 32767);
    }

    private static void askTheLowest() {
        CribbageRoom x = byLaw(NOTHING, 0, 1, 2, 3, 4, 5);
        Checks.due("all starters alike", x.ask(0), 6);
        Checks.due("all fifteen", x.ask(1), 15);
        // The king is kept by ten of the fifteen, told by a king as starter alone.
        CribbageRoom y = byLaw(NOTHING + "; pair 1 if rank=12", 0, 5, 10, 15, 20, 48);
        Checks.due("the lowest king not held", y.ask(0), 49);
        Checks.due("ten count alike", y.ask(1), 10);
        CribbageRoom last = byLaw(NOTHING + "; pair 1 if rank=12", 0, 5, 48, 49, 50, 10);
        // Two or three kings kept are told by any starter: 3, 9 and 3 of the fours.
        Checks.due("the lowest", last.ask(0), 1);
        Checks.due("nine count alike", last.ask(1), 9);
        CribbageRoom first = byLaw(NOTHING, 1, 2, 3, 4, 5, 51);
        Checks.due("0 is not held", first.ask(0), 0);
        // 14 and 1 are 15: no other starter tells whether 0 is kept.
        CribbageRoom last51 = byLaw("pair 0; run 0; flush 0; nob 0; value 20; value 14 if rank=12 and suit=3; value 1 if rank=0", 0, 5, 10, 15, 20, 25);
        Checks.due("51, the last of all", last51.ask(0), 51);
        Checks.due("ten", last51.ask(1), 10);
        CribbageRoom highest = byLaw(NOTHING + "; pair 1 if rank=12", 48, 49, 50, 0, 1, 2);
        highest.seen(51, 1 + 2);
        Checks.due("two kings are kept by all that can be", highest.canBe() != 0 ? highest.ask(1) : -1, 9);
        CribbageRoom z = byLaw(NOTHING + "; pair 1 if rank=0 or rank=2", 0, 5, 10, 15, 20, 25);
        // 0 kept is 10 of the fifteen, so is 10: the lowest starter of these RANKS.
        Checks.due("the lowest of two RANKS", z.ask(0), 1);
        Checks.due("ten", z.ask(1), 10);
    }

    private static void askOfOneOrNone() {
        CribbageRoom x = holding(SIX);
        x.seen(19, 29);
        Checks.due("one can be", x.canBe(), 16);
        Checks.due("any starter: the lowest not held", x.ask(0), 1);
        Checks.due("one is left", x.ask(1), 1);
        x.seen(19, 28);
        Checks.due("none can be", x.ask(0), -1);
        Checks.due("none can be", x.ask(1), -1);
        Checks.due("no refusal", x.count(13) + x.count(15), 0);
    }

    // ---- FEW ----

    private static void fewBounds() {
        CribbageRoom x = new CribbageRoom();
        int[][] bad = {{0, 0}, {21, 0}, {1, -1}, {1, 100}, {0, 99}, {21, 99}, {20, 100}, {20, -1}};
        for (int[] n : bad) {
            Checks.due("few(" + n[0] + ", " + n[1] + ")", x.few(n[0], n[1]), -1);
        }
        int[][] good = {{1, 0}, {20, 0}, {1, 99}, {20, 99}};
        for (int[] n : good) {
            Checks.isSo("few(" + n[0] + ", " + n[1] + ")", x.few(n[0], n[1]) > 0);
        }
    }

    private static void fewByDeals() {
        for (int misdeals : new int[] {0, 1, 2, 5, 9, 10}) {
            for (int n : new int[] {0, 1, 2, 18, 19, 20, 21, 50, 98, 99}) {
                long[] parts = new long[n + 1];
                parts[0] = 1000000000000L;
                for (int deal = 0; deal < n; deal++) {
                    long[] next = new long[n + 1];
                    for (int j = 0; j <= deal; j++) {
                        next[j] += parts[j] * (10 - misdeals) / 10;
                        next[j + 1] += parts[j] * misdeals / 10;
                    }
                    parts = next;
                }
                CribbageRoom x = new CribbageRoom();
                x.terms(1, misdeals);
                long sum = 0;
                for (int k = 1; k <= 20; k++) {
                    sum += k - 1 <= n ? parts[k - 1] : 0;
                    Checks.due("few(" + k + ", " + n + ") by " + misdeals, x.few(k, n), sum);
                }
            }
        }
        CribbageRoom x = new CribbageRoom();
        x.terms(1, 10);
        Checks.due("all are: fewer than 1 of 0", x.few(1, 0), 1000000000000L);
        Checks.due("all are: fewer than 1 of 1", x.few(1, 1), 0);
        Checks.due("all are: fewer than 2 of 1", x.few(2, 1), 1000000000000L);
        Checks.due("all are: fewer than 20 of 19", x.few(20, 19), 1000000000000L);
        Checks.due("all are: fewer than 20 of 20", x.few(20, 20), 0);
        x.terms(1, 0);
        Checks.due("none is", x.few(1, 99), 1000000000000L);
    }

    // ---- COMPARED ----

    private static void compareBounds() {
        CribbageRoom x = holding(16, 17, 18, 43);
        Checks.due("by none", x.compare(-1, 19), 29);
        Checks.due("no law 0", x.compare(0, 19), -1);
        for (int i = 0; i < 6; i++) {
            Checks.law(x, NOTHING + "; pair " + (i + 1));
            Checks.due("law " + i, x.compare(i, 19), 6 * (i + 1));
            Checks.due("no law " + (i + 1), x.compare(i + 1, 19), -1);
        }
        Checks.due("none is in force still", x.counted(19, 0, 0), 29);
        x.force(5);
        Checks.due("the one in force", x.compare(5, 19), 36);
        Checks.due("another one", x.compare(0, 19), 6);
        Checks.due("none in its place", x.compare(-1, 19), 29);
        Checks.due("law 5 is in force", x.counted(19, 0, 0), 36);
        Checks.due("compare(-2, 19)", x.compare(-2, 19), -1);
        Checks.due("compare(6, 19)", x.compare(6, 19), -1);
        // As a hand: four of a suit are a flush, crib is 0; values are by that law.
        CribbageRoom y = holding(2, 6, 10, 14);
        Checks.law(y, NOTHING + "; flush crib+7; value 15; fifteen crib+1");
        Checks.due("a flush of four", y.compare(0, 17), 7);
        Checks.law(y, NOTHING + "; value 7; value 8 if rank=4; fifteen 3");
        Checks.due("7 and 8 in four ways", y.compare(1, 17), 12);
        Checks.due("by none: 1 2 3 4 5, a run, a flush of four, a fifteen of five", y.compare(-1, 17), 5 + 4 + 2);
    }
}
