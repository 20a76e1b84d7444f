/** Terms II, what LAWS tell and ORDERS are told: each kind and word, the nearest number, the last that holds. */
public final class LawTest {
    private static final String NOTHING = "fifteen 0; pair 0; run 0; flush 0; nob 0";
    private static final String[] KINDS = {"fifteen", "pair", "run", "flush", "nob"};
    private static final String[] WORDS = {"rank", "suit", "size", "crib", "deal", "mood"};

    public static void main(String[] args) {
        wordsOfCards();
        wordsOfHandAndCrib();
        wordsOfFlushes();
        wordsOfSizes();
        wordsInPlay();
        wordsOfSizesInPlay();
        valuesWithoutLaw();
        valuesWithin31();
        countsWithoutLaw();
        countsWithin99();
        countsInPlayWithin99();
        theLastThatHolds();
        barsThatHold();
        dealAndMoodOfNow();
        noneInForce();
        sixLaws();
        wordsOfOrders();
        cardsOfOrders();
        doneAndLatest();
        timesOfOrders();
        ifOfOrders();
        wholly();
        Checks.end("LawTest");
    }

    private static CribbageRoom holding(String law, int... cards) {
        CribbageRoom x = new CribbageRoom();
        x.terms(0, 3);
        x.terms(2, 4);
        Checks.rule(x, law);
        Checks.hold(x, cards);
        return x;
    }

    // ---- What each kind is asked of ----

    /** Rank, suit; size and crib are -1; DEAL is 3 and MOOD 4 here. */
    private static void wordsOfCards() {
        int[][] cards = {{0, 0, 0}, {3, 0, 3}, {26, 6, 2}, {48, 12, 0}, {51, 12, 3}};
        for (int[] card : cards) {
            int[] told = {card[1], card[2], -1, -1, 3, 4};
            for (int w = 0; w < WORDS.length; w++) {
                CribbageRoom x = holding("value 9 + " + WORDS[w]);
                Checks.due("value 9 + " + WORDS[w] + " of " + card[0], x.card(card[0], 0), 9 + told[w]);
                CribbageRoom y = holding("bars if " + WORDS[w] + "=" + Math.max(0, told[w]) + (told[w] < 0 ? "-1" : ""));
                Checks.due("bars by " + WORDS[w] + " of " + card[0], y.card(card[0], 1), 1);
                CribbageRoom z = holding("bars if not " + WORDS[w] + "=" + Math.max(0, told[w]) + (told[w] < 0 ? "-1" : ""));
                Checks.due("bars by not " + WORDS[w] + " of " + card[0], z.card(card[0], 1), 0);
            }
        }
        CribbageRoom x = holding("value rank + 1");
        CribbageRoom y = holding("value suit + 1");
        for (int card = 0; card < 52; card++) {
            Checks.due("rank of " + card, x.card(card, 0), card / 4 + 1);
            Checks.due("suit of " + card, y.card(card, 0), card % 4 + 1);
        }
    }

    /** 16 17 18 43 with 19: eight fifteens, four of two cards, four of three; six pairs of rank 4; a nob of suit 3. */
    private static void wordsOfHandAndCrib() {
        for (int crib = 0; crib <= 1; crib++) {
            int[] fifteen = {8, 8, 4 * 4 + 4 * 5, 8 * (2 + crib), 8 * 5, 8 * 6};
            int[] pair = {6 * 6, 6, 6 * 4, 6 * (2 + crib), 6 * 5, 6 * 6};
            int[] nob = {1, 5, 1, 2 + crib, 5, 6};
            for (int w = 0; w < WORDS.length; w++) {
                counts("fifteen 2 + " + WORDS[w], crib, 1, fifteen[w], 19, 16, 17, 18, 43);
                counts("pair 2 + " + WORDS[w], crib, 2, pair[w], 19, 16, 17, 18, 43);
                counts("nob 2 + " + WORDS[w], crib, 5, nob[w], 19, 16, 17, 18, 43);
            }
        }
    }

    private static void counts(String law, int crib, int what, int due, int starter, int... four) {
        CribbageRoom x = holding(law, four);
        Checks.due(law + ", crib " + crib, x.counted(starter, crib, what), due);
        CribbageRoom alone = holding(NOTHING + "; " + law, four);
        Checks.due(law + " alone, crib " + crib, alone.counted(starter, crib, 0), due);
    }

    /** Four of suit 2, the ranks 0 to 3, with the fifth of that suit, and with one of another. */
    private static void wordsOfFlushes() {
        int[] five = {1, 4, 7, 2, 5, 6};
        int[] four = {1, 4, 6, 2, 5, 6};
        for (int w = 0; w < WORDS.length; w++) {
            counts("flush 2 + " + WORDS[w], 0, 4, five[w], 18, 2, 6, 10, 14);
            counts("flush 2 + " + WORDS[w], 0, 4, four[w], 17, 2, 6, 10, 14);
            counts("flush 2 + " + WORDS[w], 1, 4, five[w] + (w == 3 ? 1 : 0), 18, 2, 6, 10, 14);
            counts("flush 2 + " + WORDS[w], 1, 4, 0, 17, 2, 6, 10, 14);
            counts("run 2 + " + WORDS[w], 0, 3, new int[] {1, 1, 7, 2, 5, 6}[w], 17, 2, 6, 10, 14);
            counts("run 2 + " + WORDS[w], 1, 3, new int[] {1, 1, 7, 3, 5, 6}[w], 17, 2, 6, 10, 14);
        }
        for (int suit = 0; suit < 4; suit++) {
            counts("flush 20 + suit", 0, 4, 20 + suit, 16 + suit, suit, 8 + suit, 24 + suit, 44 + suit);
            counts("flush 20 + suit", 1, 4, 20 + suit, 16 + suit, suit, 8 + suit, 24 + suit, 44 + suit);
            counts("flush 20 + suit", 0, 4, 20 + suit, 16 + (suit + 1) % 4, suit, 8 + suit, 24 + suit, 44 + suit);
            counts("flush 0; flush 5 if size=5; flush 20 if size=4", 0, 4, 5, 16 + suit, suit, 8 + suit, 24 + suit, 44 + suit);
            counts("flush 0; flush 4 if size=4; flush 20 if size=5", 0, 4, 4, 16 + (suit + 1) % 4, suit, 8 + suit, 24 + suit, 44 + suit);
            counts("nob suit + 2", 0, 5, 2 + suit, 16 + suit, 40 + suit, 9, 24, 45);
        }
    }

    /** Fifteens of two to five cards, runs of three to five. */
    private static void wordsOfSizes() {
        counts("fifteen size", 0, 1, 2, 1, 16, 36, 2, 4);
        // 16 17 18 and two kings less: 5 5 5, and 10 with each five twice.
        counts("fifteen size", 0, 1, 3 + 2 * 6, 49, 16, 17, 18, 48);
        // 1 2 3 9 is 15, 7 adds none; 1 2 3 4 5 all five.
        counts("fifteen size", 0, 1, 4, 25, 0, 4, 8, 32);
        counts("fifteen size", 0, 1, 5, 16, 0, 4, 8, 13);
        counts("run size * 10", 0, 3, 30, 51, 0, 4, 8, 31);
        counts("run size * 10", 0, 3, 40, 51, 0, 4, 8, 13);
        counts("run size * 10", 0, 3, 50, 16, 0, 4, 8, 13);
    }

    private static CribbageRoom laidBy(String law) {
        CribbageRoom x = new CribbageRoom();
        x.terms(0, 2);
        x.terms(2, 4);
        x.deal(5);
        Checks.layAll(x);
        Checks.rule(x, law);
        return x;
    }

    /** In PLAY crib is -1, DEAL is 3 and MOOD 4 here. */
    private static void wordsInPlay() {
        int[] fifteen = {1, 1, 5, 1, 5, 6};
        int[] pair = {5, 1, 4, 1, 5, 6};
        int[] run = {1, 1, 5, 1, 5, 6};
        for (int w = 0; w < WORDS.length; w++) {
            // 7, 4 and 4 are 15 by three cards, and a pair of rank 3.
            CribbageRoom x = laidBy("pair 0; fifteen 2 + " + WORDS[w]);
            x.play(24, 1);
            x.play(13, 0);
            Checks.due("a fifteen in play, 2 + " + WORDS[w], x.play(15, 1), fifteen[w]);
            CribbageRoom y = laidBy("fifteen 0; pair 2 + " + WORDS[w]);
            y.play(24, 1);
            y.play(13, 0);
            Checks.due("a pair in play, 2 + " + WORDS[w], y.play(15, 1), pair[w]);
            CribbageRoom z = laidBy("run 2 + " + WORDS[w]);
            z.play(15, 1);
            z.play(7, 0);
            Checks.due("a run in play, 2 + " + WORDS[w], z.play(9, 1), run[w]);
        }
    }

    /** The LINE is 1 to 8 long when COUNT is TARGET: k cards of one VALUE. */
    private static void wordsOfSizesInPlay() {
        int[] values = {15, 10, 5, 5, 5, 5, 4, 3};
        for (int k = 1; k <= 8; k++) {
            CribbageRoom x = laidBy(NOTHING + "; value " + values[k - 1] + "; fifteen size * 10");
            x.terms(3, values[k - 1] * k);
            for (int i = 0; i < k; i++) {
                int card = i % 2 == 0 ? Rooms.PONE_PLAYS[i / 2] : Rooms.DEALER_PLAYS[i / 2];
                // Behind the k-th none can go on at 28 and 30, and none has a card at 24: 1 for the last.
                int due = i < k - 1 ? 0 : 10 * k + (k >= 6 ? 1 : 0);
                Checks.due("play " + (i + 1) + " of " + k, x.play(card, 1 - i % 2), due);
            }
        }
    }

    // ---- Without, and the nearest ----

    private static void valuesWithoutLaw() {
        CribbageRoom x = new CribbageRoom();
        CribbageRoom y = new CribbageRoom();
        Checks.rule(y, "pair 7");
        for (int card = 0; card < 52; card++) {
            int due = card < 36 ? card / 4 + 1 : 10;
            Checks.due("value of " + card, x.card(card, 0), due);
            Checks.due("value of " + card + " by a law that tells none", y.card(card, 0), due);
            Checks.due("barred without", x.card(card, 1), 0);
        }
    }

    private static void valuesWithin31() {
        int[][] sums = {{0, 1}, {1, 1}, {2, 2}, {30, 30}, {31, 31}, {32, 31}, {1000, 31}};
        for (int[] n : sums) {
            CribbageRoom x = holding("value " + n[0]);
            Checks.due("value " + n[0], x.card(0, 0), n[1]);
            Checks.due("value " + n[0], x.card(51, 0), n[1]);
        }
        Checks.due("value -1", holding("value 0-1").card(20, 0), 1);
        Checks.due("value far below", holding("value 0-1000*1000*1000").card(20, 0), 1);
        Checks.due("value far above", holding("value 1000*1000*1000").card(20, 0), 31);
        Checks.due("not 2 to the 32nd and 5 less a word", holding("value 1000*1000*999+7").card(20, 0), 31);
    }

    /** 2 for a fifteen, 2 for a pair, a run's length, a flush's cards, 1 for a nob. */
    private static void countsWithoutLaw() {
        for (String law : new String[] {"bars", "value 10 if rank>9"}) {
            CribbageRoom x = holding(law, 16, 17, 18, 43);
            int[] due = {29, 16, 12, 0, 0, 1};
            for (int what = 0; what <= 5; what++) {
                Checks.due("counted " + what, x.counted(19, 0, what), due[what]);
                Checks.due("counted " + what + " in the crib", x.counted(19, 1, what), due[what]);
            }
        }
        CribbageRoom y = holding("bars", 2, 6, 10, 14);
        Checks.due("a run of five", y.counted(17, 0, 3), 5);
        Checks.due("a run of four", y.counted(21, 0, 3), 4);
        Checks.due("a flush of four", y.counted(17, 0, 4), 4);
        Checks.due("a flush of five", y.counted(22, 0, 4), 5);
        Checks.due("a flush of five in the crib", y.counted(22, 1, 4), 5);
        Checks.hold(y, 2, 6, 11, 27);
        Checks.due("a run of three", y.counted(51, 0, 3), 3);
    }

    /** What each kind counts once in a hand made for it: a nearest number of 0 .. 99. */
    private static void countsWithin99() {
        int[][] fours = {{16, 36, 2, 4}, {0, 1, 8, 30}, {0, 4, 8, 31}, {2, 10, 26, 46}, {40, 9, 26, 47}};
        int[] starters = {1, 51, 51, 49, 36};
        String[] sums = {"0", "1", "98", "99", "100", "1000", "0-1", "1000*1000*1000", "0-1000*1000*1000"};
        int[] due = {0, 1, 98, 99, 99, 99, 0, 99, 0};
        for (int kind = 0; kind < KINDS.length; kind++) {
            for (int i = 0; i < sums.length; i++) {
                CribbageRoom x = holding(KINDS[kind] + " " + sums[i], fours[kind]);
                Checks.due(KINDS[kind] + " " + sums[i], x.counted(starters[kind], 0, kind + 1), due[i]);
            }
        }
    }

    private static void countsInPlayWithin99() {
        int[] sums = {0, 99, 100};
        int[] due = {0, 99, 99};
        for (int i = 0; i < sums.length; i++) {
            CribbageRoom x = laidBy("pair 0; fifteen " + sums[i]);
            x.play(24, 1);
            x.play(13, 0);
            Checks.due("fifteen " + sums[i], x.play(15, 1), due[i]);
            CribbageRoom y = laidBy("fifteen 0; pair " + sums[i]);
            y.play(24, 1);
            y.play(13, 0);
            Checks.due("pair " + sums[i], y.play(15, 1), due[i]);
            CribbageRoom z = laidBy("run " + sums[i]);
            z.play(15, 1);
            z.play(7, 0);
            Checks.due("run " + sums[i], z.play(9, 1), due[i]);
        }
    }

    // ---- Which clause tells ----

    private static void theLastThatHolds() {
        Checks.due("the last", holding("value 3; value 4; value 5").card(0, 0), 5);
        Checks.due("the last that is so", holding("value 3; value 4 if rank=0; value 5 if rank=1").card(0, 0), 4);
        Checks.due("its if is BROKEN", holding("value 3; value 4 if 1/rank=1").card(0, 0), 3);
        Checks.due("its SUM is BROKEN", holding("value 3; value 4/rank").card(0, 0), 3);
        Checks.due("of the next rank it is not", holding("value 3; value 4/rank").card(4, 0), 4);
        Checks.due("none holds", holding("value 4 if rank=1; value 5/rank").card(0, 0), 1);
        Checks.due("another kind tells nothing", holding("value 3; pair 7; fifteen 8").card(0, 0), 3);
        // The nearest is told of the last, not the last that lies within.
        Checks.due("above", holding("value 3; value 77").card(0, 0), 31);
        Checks.due("below", holding("value 3; value 0-4").card(0, 0), 1);
        String[] laws = {"pair 5; pair 6", "pair 5; pair 6 if rank=9", "pair 5; pair 6/0", "pair 5; pair 6 if 1%0=0", "pair 5; pair 500", "pair 5; pair 0-1",
            "pair 6/0", "pair 5 if rank=9"};
        int[] due = {6, 5, 5, 5, 99, 0, 2, 2};
        for (int i = 0; i < laws.length; i++) {
            Checks.due(laws[i], holding(laws[i], 0, 1, 8, 30).counted(51, 0, 2), due[i]);
        }
    }

    private static void barsThatHold() {
        Checks.due("bars", holding("bars").card(0, 1), 1);
        Checks.due("bars if it is so", holding("bars if 1=1").card(0, 1), 1);
        Checks.due("bars if it is not so", holding("bars if 1=2").card(0, 1), 0);
        Checks.due("one that is so, one behind it that is not", holding("bars if rank=0; bars if rank=1").card(0, 1), 1);
        Checks.due("BROKEN", holding("bars if 1/0=0").card(0, 1), 0);
        Checks.due("one that is so ahead of a BROKEN one", holding("bars; bars if 1/0=0").card(0, 1), 1);
        Checks.due("51 alone", holding("bars if rank=12 and suit=3").card(51, 1), 1);
        Checks.due("not 50", holding("bars if rank=12 and suit=3").card(50, 1), 0);
    }

    /** What a law tells changes with DEAL, with MOOD, and back with undo() and back(). */
    private static void dealAndMoodOfNow() {
        for (String word : new String[] {"deal", "mood", "deal+mood", "mood+deal"}) {
            CribbageRoom x = new CribbageRoom();
            Checks.rule(x, "value 1+" + word + "; bars if " + word + "=5; pair " + word);
            Checks.hold(x, 0, 1, 30, 40);
            int what = word.startsWith("deal") ? 0 : 2;
            x.image(0);
            for (int n : new int[] {0, 3, 5, 9, 5}) {
                x.terms(what, n);
                Checks.due("value 1+" + word + " by " + n, x.card(0, 0), 1 + n);
                Checks.due("bars by " + n, x.card(0, 1), n == 5 ? 1 : 0);
                Checks.due("pair by " + n, x.counted(51, 0, 2), n);
Checks.due("compared by " + n, x.compare(0, 51), x.counted(51, 0, 0));
            }
            x.back(0);
            Checks.due("behind back()", x.card(0, 0), 1);
        }
        CribbageRoom y = new CribbageRoom();
        Checks.rule(y, "value 1+deal");
        Checks.due("DEAL 0", y.card(0, 0), 1);
        y.deal(5);
        Checks.due("DEAL 1", y.card(0, 0), 2);
        y.undo();
        Checks.due("DEAL 0 again", y.card(0, 0), 1);
    }

    private static void noneInForce() {
        CribbageRoom x = new CribbageRoom();
        Checks.due("none at first", x.count(18), -1);
        Checks.due("a law", Checks.law(x, "value 9; bars"), 0);
        Checks.due("is not in force by that", x.card(0, 0), 1);
        Checks.due("nor bars", x.card(0, 1), 0);
        Checks.due("force(0)", x.force(0), -1);
        Checks.due("status", x.status(), 0);
        Checks.due("it tells", x.card(0, 0), 9);
        Checks.due("it bars", x.card(0, 1), 1);
        Checks.due("force(0) again", x.force(0), 0);
        Checks.due("force(-1)", x.force(-1), 0);
        Checks.due("no clause", x.card(0, 0), 1);
        Checks.due("none is barred", x.card(0, 1), 0);
        Checks.due("force(-1) again", x.force(-1), -1);
        Checks.due("status", x.status(), 0);
    }

    private static void sixLaws() {
        CribbageRoom x = new CribbageRoom();
        for (int i = 0; i < 6; i++) {
            Checks.due("no law " + i + " yet", x.force(i), -2);
            Checks.due("law " + i, Checks.law(x, "value " + (10 + i)), i);
            Checks.due("LAWS", x.count(10), i + 1);
            Checks.due("force(" + i + ")", x.force(i), i - 1);
        }
        Checks.due("a seventh", Checks.law(x, "value 3"), -5);
        Checks.due("force(6)", x.force(6), -2);
        for (int i = 0; i < 6; i++) {
            x.force(i);
            Checks.due("law " + i + " tells", x.card(0, 0), 10 + i);
        }
    }

    // ---- ORDERS ----

    /** Whether a test is so for orders: "show" can't be here, so that orders run it or not. */
    private static void told(CribbageRoom x, String test) {
        Checks.due("orders are told " + test, Checks.orders(x, "show if not (" + test + ")"), 0);
    }

    private static void wordsOfOrders() {
        CribbageRoom x = new CribbageRoom();
        told(x, "phase=0 and done=0 and latest=0-1 and count=0 and turn=0-1 and pegs 0=0 and pegs 1=0");
        x.deal(5);
        told(x, "phase=1 and turn=0-1 and latest=0-1");
        Checks.layAll(x);
        told(x, "phase=2 and turn=1 and count=0");
        x.play(24, 1);
        x.play(13, 0);
        told(x, "count=11 and turn=1 and pegs 0=0 and pegs 1=0");
        x.play(15, 1);
        told(x, "count=15 and turn=0 and pegs 0=0 and pegs 1=4 and latest=0-1 and done=0");
        for (int card : new int[] {8, 9, 10, 23, 7}) {
            x.play(card, x.count(6));
        }
        told(x, "phase=2 and turn=0-1 and count=0 and pegs 0=7 and pegs 1=7");
        x.show();
        told(x, "phase=3 and turn=0-1 and pegs 0=29 and pegs 1=11");
    }

    private static void cardsOfOrders() {
        CribbageRoom x = new CribbageRoom();
        for (int k = 0; k < 12; k++) {
            told(x, "card " + k + "=0-1");
        }
        x.deal(5);
        int[] six = {0, 7, 8, 10, 13, 21, 9, 15, 23, 24, 45, 46};
        for (int k = 0; k < 12; k++) {
            told(x, "card " + k + "=" + six[k]);
        }
        x.lay(0, 0);
        x.lay(45, 1);
        int[] five = {7, 8, 10, 13, 21, -1, 9, 15, 23, 24, 46, -1};
        for (int k = 0; k < 12; k++) {
            told(x, "card " + k + "=" + (five[k] < 0 ? "0-1" : five[k]));
        }
    }

    private static void doneAndLatest() {
        CribbageRoom x = new CribbageRoom();
        Checks.due("done counts what was run, not what was not",
            Checks.orders(x, "deal 5 if done=0; deal 5 if done=0; lay 45 by 1 if done=1; lay 46 by 1 if done=2 and latest=0-1"), 3);
        Checks.due("done is of this text", Checks.orders(x, "lay 0 by 0 if done=0; lay 21 by 0 if done=1"), 2);
        Checks.due("latest", Checks.orders(x, "play 24 by 1; play 13 by 0 if latest=0; play 15 by 1 if latest=0; play 8 by 0 if latest=4"), 4);
        Checks.due("latest at first in the next text", Checks.orders(x, "play 9 by 1 if latest=0-1; play 10 by 0 if latest=2"), 2);
        Checks.due("told by 6", Checks.orders(x, "play 23 by 1 if latest=6"), 0);
        Checks.due("1 for the last is told, too", Checks.orders(x, "play 23 by 1; play 7 by 0 if latest=1; show if latest=1; deal 9 if latest=1 and done=3"), 4);
    }

    private static void timesOfOrders() {
        CribbageRoom x = new CribbageRoom();
        Checks.due("once without", Checks.orders(x, "deal 5; lay card 0 by 0"), 2);
        Checks.due("once", Checks.orders(x, "lay card 0 by 0 times 1"), 1);
        Checks.due("twenty times, if it is so each time", Checks.orders(x, "lay card 6 by 1 times 20 if phase=1"), 2);
        Checks.due("phase", x.count(0), 2);
        CribbageRoom y = Checks.dealt();
        Checks.due("twice", Checks.orders(y, "lay card 0 by 0 times 2"), 2);
        Checks.due("three times can't be", Checks.orders(y, "lay card 6 by 1 times 3"), -3);
        Checks.due("none of them is run", y.hand(1, 0), 6);
        CribbageRoom z = new CribbageRoom();
        Checks.rule(z, "bars");
        String all = "lay card 0 by 0 times 20 if card 4>0-1; lay card 6 by 1 times 20 if card 10>0-1; show";
        Checks.due("240 times at most, four and a show", Checks.orders(z, "deal 5; " + all), 6);
        Checks.due("deal 20 times, run once", Checks.orders(z, "deal 7 times 20 if phase=3"), 1);
        Checks.due("240 times not run", Checks.orders(z, "show times 20 if 1=2;".repeat(11) + "show times 20 if 1=2"), 0);
    }

    private static void ifOfOrders() {
        CribbageRoom x = new CribbageRoom();
        Checks.due("not so", Checks.orders(x, "deal 5 if 1=2"), 0);
        Checks.due("BROKEN", Checks.orders(x, "deal 5 if 1/0=1"), 0);
        Checks.due("so", Checks.orders(x, "deal 5 if 1=1"), 1);
        // The if is asked ahead of the sums: one that is not so keeps a BROKEN sum from being worked out.
        Checks.due("sums behind the if", Checks.orders(x, "lay 1/0 by 1 if 1=2; lay 0 by 1/0 if phase=3"), 0);
        Checks.due("a BROKEN first sum", Checks.orders(x, "lay 1/0 by 1"), -3);
        Checks.due("a BROKEN second sum", Checks.orders(x, "lay 45 by 1/0"), -3);
        Checks.due("stopped", x.stopped(), 0);
    }

    private static void wholly() {
        CribbageRoom x = Checks.dealt();
        Checks.due("the last can't be", Checks.orders(x, "lay 45 by 1; lay 46 by 1; lay 0 by 0; lay 21 by 0; play 24 by 1; play 24 by 1"), -3);
        Checks.due("stopped at", x.stopped(), 5);
        Checks.due("phase", x.count(0), 1);
        Checks.due("the crib is empty", x.count(3), 0);
        Checks.due("one can be undone", x.count(11), 1);
        Checks.due("without it all are run", Checks.orders(x, "lay 45 by 1; lay 46 by 1; lay 0 by 0; lay 21 by 0; play 24 by 1"), 5);
        Checks.due("stopped at none", x.stopped(), -1);
        Checks.due("phase", x.count(0), 2);
        Checks.due("six can be undone", x.count(11), 6);
        Checks.due("the second time can't be", Checks.orders(x, "play 13 by 0 times 2"), -3);
        Checks.due("stopped at the first", x.stopped(), 0);
        Checks.due("13 is not played", x.card(13, 3), 0);
        // A law that asks for the deal tells anew in the next deal of the same text.
        CribbageRoom y = new CribbageRoom();
        Checks.rule(y, "bars if deal<3; value 31 if deal=3; fifteen 0; pair 0; run 0; flush 0; nob 0");
        String lays = "lay card 0 by 0 times 2; lay card 6 by 1 times 2;";
        Checks.due("two deals", Checks.orders(y, "deal 5;" + lays + "show; deal 5;" + lays + "show"), 12);
        Checks.due("no pegs", y.hand(0, 7) + y.hand(1, 7), 0);
        Checks.due("the third is played", Checks.orders(y, "deal 5;" + lays + "play card 6 by 1; play card 0 by 0 if latest=2"), 7);
    }
}
