import java.util.List;

/** Promises 1 to 13 and 33 to 38 at their edges: a new room, an empty and a full tape, row, law, image, rubbers; the 512th call. */
public final class EdgeTest {
    private static final String NOTHING = "fifteen 0; pair 0; run 0; flush 0; nob 0";

    public static void main(String[] args) {
        aNewRoom();
        aNewRoomOnPaper();
        cardsInEachPlace();
        cardsPlayed();
        handsOfNoneToSix();
        termsAtTheirEnds();
        feedUpTo400();
        feedOfEachByte();
        endOfWhatThereIs();
        rowOfNoneTo400();
        rowOfEachByte();
        jokersOfTheLatest();
        lawsEmptyTheTape();
        lawBehindBack();
        ordersEmptyTheTape();
        ordersOfNone();
        faultOfTheLatest();
        stoppedAtEach();
        forceOfAll();
        rubbersBounds();
        rubbersUpToDeal999();
        rubbersFromWhereItStands();
        drawnOfTheLatest();
        imagesOfBoth();
        imageOfAFullRoom();
        imageOfWhatWasSeen();
        backToANewRoom();
        countOfAll();
        countOfRefused();
        whatIsChangedAndNoMore();
        whatCanBeUndoneStays();
        statusOfEach();
        statusOfOthers();
        the512thCall();
        Checks.end("EdgeTest");
    }

    // ---- Promise 1 ----

    private static void aNewRoom() {
        long[] row = Look.at(new CribbageRoom());
        for (int i = 0; i < row.length; i++) {
            String name = Look.name(i);
            int due = 0;
            if (name.startsWith("card(")) {
                int card = Integer.parseInt(name.substring(5, name.indexOf(',')));
                due = name.endsWith(" 0)") ? Math.min(10, card / 4 + 1) : name.endsWith(" 2)") ? -1 : 0;
            } else if (name.startsWith("hand(")) {
                due = name.endsWith(" 0)") || name.endsWith(" 7)") || name.endsWith(" 8)") ? 0 : -1;
            } else if (name.startsWith("drawn(") || name.equals("fault()") || name.equals("stopped()")) {
                due = -1;
            } else if (name.equals("count(2)") || name.equals("count(6)") || name.equals("count(7)") || name.equals("count(18)")) {
                due = -1;
            } else if (name.equals("count(1)") || name.equals("count(20)")) {
                due = 1;
            } else if (name.equals("count(22)")) {
                due = 15;
            }
            Checks.due("a new room: " + name, row[i], due);
        }
        CribbageRoom x = new CribbageRoom();
        Checks.due("status", x.status(), 0);
        for (int what = 13; what <= 17; what++) {
            Checks.due("count(" + what + ")", x.count(what), 0);
        }
        Checks.due("NONE", CribbageRoom.NONE, -1);
    }

    private static void aNewRoomOnPaper() {
        CribbageRoom x = new CribbageRoom();
        Checks.due("drop()", x.drop(), 0);
        Checks.due("forget()", x.forget(), 0);
        Checks.due("counted", x.counted(0, 0, 0), -1);
        Checks.due("kept", x.kept(0), -1);
        Checks.due("byStarters", x.byStarters(0), -1);
        Checks.due("bestStarter", x.bestStarter(0), -1);
        Checks.due("toEnd", x.toEnd(0), -1000);
        Checks.due("canBe", x.canBe(), -1);
        Checks.due("ask", x.ask(0), -1);
        Checks.due("compare", x.compare(-1, 0), -1);
        Checks.due("few(1, 1) by one misdeal in ten", x.few(1, 1), 900000000000L);
        Checks.isSo("cribOf", x.cribOf(0, 1) > 0);
        Checks.due("end(0)", x.end(0), 0);
        Checks.due("end(1)", x.end(1), -1);
        Checks.due("undo()", x.undo(), -3);
        Checks.due("show()", x.show(), -3);
        Checks.due("lay(0, 0)", x.lay(0, 0), -3);
        Checks.due("play(0, 0)", x.play(0, 0), -3);
        Checks.due("row()", x.row(), -6);
        Checks.due("orders()", x.orders(), -6);
        Checks.due("law()", x.law(), -6);
        Checks.due("back(0)", x.back(0), -2);
        Checks.due("back(1)", x.back(1), -2);
        Checks.due("force(0)", x.force(0), -2);
        Checks.due("force(-1)", x.force(-1), -1);
        Checks.due("rubbers(5, 1)", x.rubbers(5, 1), 23);
        Checks.due("it stands as it was", x.count(0), 0);
        Checks.due("deal(5)", x.deal(5), 14);
    }

    // ---- Promises 2 and 3 ----

    private static void places(CribbageRoom x, String room, int in0, int in1, int crib, int starter) {
        int[] many = new int[5];
        for (int card = 0; card < 52; card++) {
            int place = x.card(card, 2);
            many[place + 1]++;
            if (place == 0 || place == 1) {
                boolean found = false;
                for (int k = 1; k <= 6; k++) {
                    found |= x.hand(place, k) == card;
                }
                Checks.isSo(room + ": " + card + " is in the hand of " + place, found);
            }
            if (place == 3) {
                Checks.due(room + ": the starter", x.count(2), card);
            }
        }
        int[] due = {52 - in0 - in1 - crib - starter, in0, in1, crib, starter};
        for (int i = 0; i < 5; i++) {
            Checks.due(room + ": how many are in place " + (i - 1), many[i], due[i]);
        }
    }

    private static void cardsInEachPlace() {
        places(new CribbageRoom(), "new", 0, 0, 0, 0);
        places(Rooms.named("dealt"), "dealt", 6, 6, 0, 1);
        places(Rooms.named("half laid"), "half laid", 6, 4, 2, 1);
        places(Rooms.named("laid"), "laid", 4, 4, 4, 1);
        // A card that was played is in the HAND still.
        places(Rooms.named("in play"), "in play", 4, 4, 4, 1);
        places(Rooms.named("played"), "played", 4, 4, 4, 1);
        places(Rooms.named("shown"), "shown", 4, 4, 4, 1);
        CribbageRoom x = Rooms.shown();
        x.deal(9);
        places(x, "dealt again", 6, 6, 0, 1);
        CribbageRoom y = Rooms.halfLaid();
        y.undo();
        places(y, "one taken back", 6, 5, 1, 1);
        CribbageRoom z = new CribbageRoom();
        for (int card : new int[] {0, 51}) {
            for (int what = 0; what <= 4; what++) {
                Checks.isSo("card(" + card + ", " + what + ")", z.card(card, what) >= (what == 2 ? -1 : 0));
            }
        }
        for (int n : new int[] {-1, 52, Integer.MIN_VALUE, Integer.MAX_VALUE}) {
            for (int what = 0; what <= 4; what++) {
                Checks.due("card(" + n + ", " + what + ")", z.card(n, what), -1);
            }
            Checks.due("card(7, " + n + ")", z.card(7, n), -1);
        }
        Checks.due("card(0, 5)", z.card(0, 5), -1);
    }

    private static void cardsPlayed() {
        CribbageRoom x = Checks.laid();
        for (int i = 0; i < 8; i++) {
            int player = 1 - i % 2;
            int card = player == 1 ? Rooms.PONE_PLAYS[i / 2] : Rooms.DEALER_PLAYS[i / 2];
            Checks.due("not played yet", x.card(card, 3), 0);
            Checks.due("left ahead of it", x.hand(player, 8), 4 - i / 2);
            x.play(card, player);
            Checks.due("played", x.card(card, 3), 1);
            Checks.due("left behind it", x.hand(player, 8), 3 - i / 2);
            Checks.due("four are in the HAND still", x.hand(player, 0), 4);
        }
        x.show();
        Checks.due("played, though it is shown", x.card(24, 3), 1);
        x.deal(5);
        Checks.due("not played in the next deal", x.card(24, 3), 0);
        Checks.due("six are not played", x.hand(0, 8), 6);
    }

    private static void handsOfNoneToSix() {
        int[] plays = {24, 13, 15, 8};
        CribbageRoom x = new CribbageRoom();
        for (int k = 1; k <= 6; k++) {
            Checks.due("none dealt: hand(0, " + k + ")", x.hand(0, k), -1);
        }
        x.deal(5);
        for (int left = 6; left >= 4; left--) {
            Checks.due("how many", x.hand(0, 0), left);
            Checks.due("not played", x.hand(0, 8), left);
            for (int k = 1; k <= 6; k++) {
                Checks.isSo("rising", k > left ? x.hand(0, k) == -1 : x.hand(0, k) > (k == 1 ? -1 : x.hand(0, k - 1)));
            }
            x.lay(x.hand(0, 1), 0);
        }
        CribbageRoom y = Checks.laid();
        for (int i = 0; i < plays.length; i++) {
            y.play(plays[i], 1 - i % 2);
            Checks.due("the lowest of four, played or not", y.hand(0, 1), 7);
            Checks.due("the highest of four", y.hand(1, 4), 24);
        }
        for (int n : new int[] {-1, 2, Integer.MIN_VALUE, Integer.MAX_VALUE}) {
            for (int what = 0; what <= 8; what++) {
                Checks.due("hand(" + n + ", " + what + ")", y.hand(n, what), -1);
            }
        }
        for (int n : new int[] {-1, 9, Integer.MIN_VALUE, Integer.MAX_VALUE}) {
            Checks.due("hand(0, " + n + ")", y.hand(0, n), -1);
            Checks.due("hand(1, " + n + ")", y.hand(1, n), -1);
        }
        Checks.due("hand(0, 8)", y.hand(0, 8), 2);
        Checks.due("hand(1, 7)", y.hand(1, 7), 4);
    }

    // ---- Promise 4 ----

    private static void termsAtTheirEnds() {
        int[][] ends = {{0, 999}, {0, 10}, {0, 9}, {5, 31}};
        int[] first = {0, 1, 0, 15};
        for (int what = 0; what < 4; what++) {
            int w = what;
            for (int value : ends[what]) {
                Twins.changes("a new room", CribbageRoom::new, "terms(" + what + ", " + value + ")", x -> x.terms(w, value), first[what],
                    "count(" + (19 + what) + ")");
            }
            CribbageRoom x = Checks.laid();
            int was = x.count(19 + what);
            Checks.due("five can be undone", x.count(11), 5);
            Checks.due("the same again", x.terms(what, was), was);
            Checks.due("none can be undone then", x.count(11), 0);
            Checks.due("undo()", x.undo(), -3);
            int more = x.terms(what, ends[what][1]);
            Checks.due("what it was", more, was);
            Checks.due("it stands", x.count(19 + what), ends[what][1]);
        }
        CribbageRoom x = new CribbageRoom();
        for (int value = 5; value <= 31; value++) {
            Checks.due("TARGET " + value, x.terms(3, value), value == 5 ? 15 : value - 1);
        }
    }

    // ---- Promises 5 and 6 ----

    private static void feedUpTo400() {
        CribbageRoom x = new CribbageRoom();
        for (int i = 1; i <= 20; i++) {
            Checks.due("feed " + i, x.feed(0, 0, 0, 0, 0), 20 * i);
            Checks.due("TAPE", x.count(12), 20 * i);
        }
        Checks.due("420", x.feed(0, 0, 0, 0, 0), -1);
        Checks.due("TAPE", x.count(12), 400);
        x.end(381);
        Checks.due("401", x.feed(0, 0, 0, 0, 0), -1);
        Checks.due("TAPE", x.count(12), 381);
        x.end(380);
        Checks.due("400", x.feed(1, 1, 1, 1, 1), 400);
        // The 380 are no cards but 0, the twenty are 0 0 0 1 five times.
        Checks.due("0 and 1", x.row(), 2);
        Checks.due("398 are jokers", x.jokers(), 398);
        Checks.due("empty", x.feed(0, 0, 0, 0, 0), 20);
        Checks.due("no refusal", x.status(), 0);
        CribbageRoom y = new CribbageRoom();
        for (int i = 0; i < 19; i++) {
            y.feed(0x20202020, 0x20202020, 0x20202020, 0x20202020, 0x20202020);
        }
        y.end(377);
        y.feed(0x62617273, 0x62617273, 0x20202020, 0x20202020, 0x20202020);
        Checks.due("behind the first 377: one word of barsbars", y.law(), -6);
        Checks.due("its place", y.fault(), 377);
    }

    /** Each of the twenty places, and each byte, of numbers of whatever sign. */
    private static void feedOfEachByte() {
        for (int place = 0; place < 20; place++) {
            int[] n = {-1, -1, -1, -1, -1};
            n[place / 4] = ~(255 << 8 * (3 - place % 4)) | 7 << 8 * (3 - place % 4);
            CribbageRoom x = new CribbageRoom();
            x.feed(n[0], n[1], n[2], n[3], n[4]);
            x.end(place + 1);
            Checks.due("seven is at " + place, x.row(), 1);
            Checks.due("seven", x.card(7, 4), 1);
            Checks.due("ahead of it there are others", x.jokers(), place);
        }
        CribbageRoom x = new CribbageRoom();
        Checks.due("twenty", x.feed(0x62617273, 0x20696620, 0x313d3120, 0x20202020, 0x20202020), 20);
        Checks.due("bars if 1=1", x.law(), 0);
        x.force(0);
        Checks.due("it bars", x.card(51, 1), 1);
    }

    private static void endOfWhatThereIs() {
        CribbageRoom x = new CribbageRoom();
        for (int n : new int[] {1, -1, 400, Integer.MAX_VALUE, Integer.MIN_VALUE}) {
            Checks.due("end(" + n + ") of none", x.end(n), -1);
        }
        Checks.due("end(0) of none", x.end(0), 0);
        x.feed(1, 2, 3, 4, 5);
        Checks.due("end(21)", x.end(21), -1);
        Checks.due("end(20)", x.end(20), 20);
        Checks.due("end(-1)", x.end(-1), -1);
        Checks.due("TAPE", x.count(12), 20);
        Checks.due("end(19)", x.end(19), 19);
        Checks.due("end(20) then", x.end(20), -1);
        Checks.due("end(1)", x.end(1), 1);
        Checks.due("end(0)", x.end(0), 0);
        Checks.due("end(1) then", x.end(1), -1);
        Checks.due("row() of none", x.row(), -6);
        CribbageRoom y = Rooms.full();
        Checks.due("end(401)", y.end(401), -1);
        Checks.due("end(400)", y.end(400), 400);
        Checks.due("end(399)", y.end(399), 399);
        Checks.due("end(400) then", y.end(400), -1);
        Checks.due("status is as it was", y.status(), -3);
    }

    // ---- Promises 7 and 8 ----

    private static int[] bytes(int n, int first, int step) {
        int[] bytes = new int[n];
        for (int i = 0; i < n; i++) {
            bytes[i] = first + i * step;
        }
        return bytes;
    }

    private static void rowOfNoneTo400() {
        for (int n : new int[] {1, 5, 6, 7, 8, 52, 399, 400}) {
            CribbageRoom x = new CribbageRoom();
            Checks.due("row of " + n, Checks.row(x, bytes(n, 0, 1)), Math.min(6, n));
            Checks.due("jokers of " + n, x.jokers(), Math.max(0, n - 6));
            Checks.due("HELD", x.count(8), Math.min(6, n));
            Checks.due("the tape is empty", x.count(12), 0);
            CribbageRoom y = new CribbageRoom();
            Checks.due("one card " + n + " times", Checks.row(y, bytes(n, 51, 0)), 1);
            Checks.due("jokers", y.jokers(), n - 1);
            CribbageRoom z = Rooms.shown();
            Checks.due("no card " + n + " times", Checks.row(z, bytes(n, 52, 0)), 0);
            Checks.due("jokers", z.jokers(), n);
            Checks.due("in place of all that were", z.count(8), 0);
            Checks.due("it leaves what can be undone", z.count(11), 14);
        }
        CribbageRoom x = Rooms.shown();
        x.end(0);
        Checks.due("an empty tape", x.row(), -6);
        Checks.due("HELD stay", x.count(8), 6);
    }

    private static void rowOfEachByte() {
        for (int b = 0; b < 256; b++) {
            CribbageRoom x = new CribbageRoom();
            Checks.due("row of " + b, Checks.row(x, b), b < 52 ? 1 : 0);
            Checks.due("jokers of " + b, x.jokers(), b < 52 ? 0 : 1);
            Checks.due("held", x.card(b % 52, 4), b < 52 ? 1 : 0);
        }
        CribbageRoom x = new CribbageRoom();
        // What was HELD ahead of the row may come in it; twice it may not.
        Checks.hold(x, 1, 2, 3);
        Checks.due("3 4 3 52 5", Checks.row(x, 3, 4, 3, 52, 5), 3);
        Checks.due("3 again and 52", x.jokers(), 2);
        Checks.due("1 is not held", x.card(1, 4), 0);
        Checks.due("a seventh and one that is held", Checks.row(x, 0, 51, 1, 50, 2, 49, 3, 0, 255), 6);
        Checks.due("three jokers", x.jokers(), 3);
        Checks.due("3 is not held", x.card(3, 4), 0);
        Checks.due("49 is", x.card(49, 4), 1);
    }

    private static void jokersOfTheLatest() {
        CribbageRoom x = new CribbageRoom();
        Checks.due("ahead of any", x.jokers(), 0);
        x.row();
        Checks.due("refused", x.jokers(), 0);
        Checks.row(x, 60, 61);
        Checks.due("two", x.jokers(), 2);
        x.row();
        Checks.due("refused: the one ahead of it", x.jokers(), 2);
        x.hold(99);
        Checks.due("hold() has none", x.jokers(), 2);
        Checks.row(x, 1);
        Checks.due("none", x.jokers(), 0);
    }

    // ---- Promises 9 to 13 ----

    private static void lawsEmptyTheTape() {
        CribbageRoom x = new CribbageRoom();
        for (String text : new String[] {"bars", "bars ?", " ", "value 1/0"}) {
            int laws = x.count(10);
            int answer = Checks.law(x, text);
            boolean good = text.equals("bars") || text.equals("value 1/0");
            Checks.due("law of '" + text + "'", answer, good ? laws : -6);
            Checks.due("status", x.status(), good ? 0 : -6);
            Checks.due("the tape is empty", x.count(12), 0);
            Checks.due("LAWS", x.count(10), good ? laws + 1 : laws);
        }
        Twins.Maker written = () -> {
            CribbageRoom y = Rooms.inPlay();
            Checks.write(y, "value 9");
            return y;
        };
        Twins.changes("in play", written, "law()", CribbageRoom::law, 0, "count(10)", "count(12)");
        CribbageRoom full = Rooms.full();
        Checks.due("a seventh", full.law(), -5);
        Checks.due("the tape is empty then, too", full.count(12), 0);
        Checks.due("LAWS", full.count(10), 6);
        Checks.due("FAULT is of the latest that read a text", full.fault(), -1);
        CribbageRoom faulty = Rooms.full();
        faulty.end(0);
        Checks.orders(faulty, "show ?");
        Checks.law(faulty, "value");
        Checks.due("FAULT of the orders", faulty.fault(), 5);
    }

    private static void lawBehindBack() {
        CribbageRoom x = new CribbageRoom();
        x.image(0);
        for (int i = 0; i < 6; i++) {
            Checks.law(x, "value " + (i + 2));
        }
        x.force(5);
        Checks.due("a seventh", Checks.law(x, "bars"), -5);
        x.back(0);
        Checks.due("LAWS", x.count(10), 0);
        Checks.due("none in force", x.count(18), -1);
        Checks.due("no law 0", x.force(0), -2);
        Checks.due("room again", Checks.law(x, "value 20"), 0);
        x.force(0);
        Checks.due("it tells", x.card(0, 0), 20);
        x.image(1);
        x.back(0);
        Checks.law(x, "value 21");
        x.force(0);
        Checks.due("another law 0", x.card(0, 0), 21);
        x.back(1);
        Checks.due("that of the image", x.card(0, 0), 20);
    }

    private static void ordersEmptyTheTape() {
        CribbageRoom x = new CribbageRoom();
        String[] texts = {"deal 5", "deal 5", "deal", "show if 1=2", ""};
        int[] due = {1, -3, -6, 0, -6};
        for (int i = 0; i < texts.length; i++) {
            Checks.due("orders '" + texts[i] + "'", Checks.orders(x, texts[i]), due[i]);
            Checks.due("the tape is empty", x.count(12), 0);
            Checks.due("status", x.status(), Math.min(0, due[i]));
        }
    }

    private static void ordersOfNone() {
        Twins.Maker written = () -> {
            CribbageRoom y = Rooms.inPlay();
            Checks.write(y, "show times 20 if 1=2; play 1/0 by 7 if 1/0=1");
            return y;
        };
        Twins.changes("in play", written, "orders() of which none is run", CribbageRoom::orders, 0, "count(12)");
        Twins.Maker one = () -> {
            CribbageRoom y = new CribbageRoom();
            Checks.rule(y, "bars");
            Checks.orders(y, "deal 5; lay card 0 by 0 times 2; lay card 6 by 1 times 2");
            Checks.write(y, "show");
            return y;
        };
        Twins.changes("all laid", one, "orders() of a show", CribbageRoom::orders, 1, "count(0)", "count(11)", "count(12)", "hand(0, 7)", "hand(1, 7)");
    }

    private static void faultOfTheLatest() {
        CribbageRoom x = new CribbageRoom();
        Checks.due("ahead of any", x.fault(), -1);
        Checks.law(x, "bars");
        Checks.due("none", x.fault(), -1);
        Checks.law(x, "bars bars");
        Checks.due("5", x.fault(), 5);
        x.row();
        x.hold(99);
        Checks.due("other refusals leave it", x.fault(), 5);
        Checks.orders(x, "show ;");
        Checks.due("of the orders", x.fault(), 6);
        Checks.orders(x, "show");
        Checks.due("they could be read", x.fault(), -1);
        Checks.due("though they can't be", x.status(), -3);
        x.orders();
        Checks.due("nothing on the tape", x.fault(), 0);
        Checks.law(x, "pair 2");
        Checks.due("none again", x.fault(), -1);
        Checks.law(x, "   ");
        Checks.due("blanks alone", x.fault(), 3);
    }

    private static void stoppedAtEach() {
        for (int i = 0; i < 12; i++) {
            CribbageRoom x = new CribbageRoom();
            Checks.due("ahead of any", x.stopped(), -1);
            Checks.due("orders", Checks.orders(x, "show if 1=2;".repeat(i) + "show" + ";show".repeat(11 - i)), -3);
            Checks.due("stopped()", x.stopped(), i);
            Checks.due("others leave it", x.undo() + x.law() + x.row() + x.stopped(), -15 + i);
            Checks.orders(x, i % 2 == 0 ? "show if" : "show if 1=2");
            Checks.due("none", x.stopped(), -1);
        }
        CribbageRoom x = new CribbageRoom();
        Checks.due("at its second time", Checks.orders(x, "deal 5 times 2"), -3);
        Checks.due("the first clause", x.stopped(), 0);
        x.orders();
        Checks.due("an empty tape", x.stopped(), -1);
    }

    private static void forceOfAll() {
        CribbageRoom x = new CribbageRoom();
        int was = -1;
        for (int i = 0; i < 6; i++) {
            Checks.due("force(" + i + ") without it", x.force(i), -2);
            Checks.due("it leaves which is", x.count(18), was);
            Checks.law(x, "value " + (i + 2));
            Checks.due("force(" + i + ")", x.force(i), was);
            Checks.due("status", x.status(), 0);
            was = i;
        }
        Checks.due("force(6)", x.force(6), -2);
        Checks.due("force(-2)", x.force(-2), -2);
        Checks.due("force(-1)", x.force(-1), 5);
        Checks.due("none", x.count(18), -1);
        Checks.due("force(5)", x.force(5), -1);
        CribbageRoom y = Rooms.inPlay();
        y.force(Checks.law(y, "value 9"));
        Checks.due("it leaves what can be undone", y.count(11), 8);
        Checks.due("undo()", y.undo(), 2);
        Checks.due("which leaves what is in force", y.count(18), 0);
    }

    // ---- Promises 33 and 34 ----

    private static void rubbersBounds() {
        CribbageRoom x = new CribbageRoom();
        int before = 0;
        for (int n = 1; n <= 20; n++) {
            int told = x.rubbers(123, n);
            Checks.isSo("more by each", told > before);
            Checks.due("both together", x.drawn(0) + x.drawn(1), told);
            before = told;
        }
        for (int seed : new int[] {0, 1000000}) {
            Checks.isSo("rubbers(" + seed + ", 1)", x.rubbers(seed, 1) >= 0 && x.status() == 0);
        }
        for (int[] n : new int[][] {{0, 0}, {0, 21}, {-1, 1}, {1000001, 20}}) {
            Checks.due("rubbers(" + n[0] + ", " + n[1] + ")", x.rubbers(n[0], n[1]), -1);
        }
        Checks.due("refused by -1", x.count(13), 4);
        Twins.changes("in play", Rooms::inPlay, "rubbers(5, 1)", y -> y.rubbers(5, 1), 23, "drawn(0)", "drawn(1)");
    }

    private static void rubbersUpToDeal999() {
        for (int deal : new int[] {0, 979, 980, 990, 998, 999}) {
            CribbageRoom x = new CribbageRoom();
            x.terms(0, deal);
            int most = Math.min(20, 999 - deal);
            CribbageRoom y = new CribbageRoom();
            Checks.due("twenty from DEAL " + deal, x.rubbers(77, 20), most == 0 ? 0 : y.rubbers(77, most));
            Checks.due("0", x.drawn(0), most == 0 ? 0 : y.drawn(0));
            Checks.due("1", x.drawn(1), most == 0 ? 0 : y.drawn(1));
            Checks.due("DEAL is as it was", x.count(19), deal);
        }
    }

    /** All in HANDS is put aside, PEGS and who is DEALER stay: in whatever PHASE. */
    private static void rubbersFromWhereItStands() {
        for (String room : new String[] {"dealt", "half laid", "laid", "in play", "played", "shown"}) {
            CribbageRoom x = Rooms.named(room);
            int[] pegs = {x.hand(0, 7), x.hand(1, 7)};
            // 0 was DEALER, so that 1 is now: 19 for the DEALER, 4 for PONE.
            Checks.due(room + ": rubbers(5, 1)", x.rubbers(5, 1), 23);
            Checks.due(room + ": drawn(0)", x.drawn(0), pegs[0] + 4);
            Checks.due(room + ": drawn(1)", x.drawn(1), pegs[1] + 19);
        }
        // A LINE that is open is put aside as well: nothing of it makes a pair, a run, a length.
        String rule = "value 5; fifteen size*10; pair 50; run 60";
        for (int seed = 0; seed < 8; seed++) {
            CribbageRoom open = Rooms.inPlay();
            Checks.rule(open, rule);
            CribbageRoom none = Checks.dealt();
            Checks.rule(none, rule);
            Checks.due("a line of three open, rubbers(" + seed + ", 1)", open.rubbers(seed, 1), none.rubbers(seed, 1));
            open.terms(3, 5);
            none.terms(3, 5);
            Checks.due("by TARGET 5, the first card", open.rubbers(seed, 2), none.rubbers(seed, 2));
            Checks.due("the line stays open", open.count(5), 3);
        }
        CribbageRoom x = new CribbageRoom();
        Checks.rule(x, "bars if deal=1; fifteen 0; run 0; flush 0; nob 0; pair 0; pair 9 if deal=2; pair 50 if deal=2 and crib<0");
        Checks.due("nothing in the first", x.rubbers(5, 1), 0);
        Checks.isSo("the second by the law of its deal", x.rubbers(5, 2) > 0);
        x.terms(0, 1);
        Checks.isSo("the deal that comes is 2", x.rubbers(5, 1) > 0);
    }

    private static void drawnOfTheLatest() {
        CribbageRoom x = new CribbageRoom();
        for (int player = -2; player <= 3; player++) {
            Checks.due("ahead of any: drawn(" + player + ")", x.drawn(player), -1);
        }
        x.rubbers(5, 21);
        Checks.due("refused", x.drawn(0), -1);
        x.rubbers(5, 1);
        int[] due = {-1, -1, 19, 4, -1, -1};
        for (int player = -2; player <= 3; player++) {
            Checks.due("drawn(" + player + ")", x.drawn(player), due[player + 2]);
        }
        x.rubbers(5, 0);
        Checks.due("the latest that was not refused", x.drawn(0), 19);
        x.terms(0, 999);
        Checks.due("no deal is left", x.rubbers(5, 20), 0);
        Checks.due("PEGS as they are", x.drawn(0), 0);
        Checks.due("PEGS as they are", x.drawn(1), 0);
        Checks.due("drawn(MOST)", x.drawn(Integer.MAX_VALUE), -1);
    }

    // ---- Promises 35 and 36 ----

    private static void imagesOfBoth() {
        for (int k = 0; k < 2; k++) {
            int of = k;
            for (String room : Rooms.NAMES) {
                Twins.changes(room, () -> Rooms.named(room), "image(" + k + ")", x -> x.image(of), 0);
                CribbageRoom x = Rooms.named(room);
                boolean other = x.back(1 - k) == 0;
                x.image(k);
                Checks.due(room + ": the other one is kept or not", x.back(1 - k), other ? 0 : -2);
                Checks.due(room + ": this one is", x.back(k), 0);
            }
        }
        CribbageRoom x = new CribbageRoom();
        x.hold(1);
        x.image(0);
        x.hold(2);
        x.image(1);
        x.hold(3);
        Checks.due("back(0)", x.back(0), 0);
        Checks.due("one", x.count(8), 1);
        Checks.due("back(1)", x.back(1), 0);
        Checks.due("two", x.count(8), 2);
        x.drop();
        x.image(0);
        Checks.due("back(1)", x.back(1), 0);
        Checks.due("two", x.count(8), 2);
        Checks.due("back(0)", x.back(0), 0);
        Checks.due("the image is the later one", x.count(8), 0);
    }

    /** All that an image keeps is changed; then it is as it was, but what can be undone. */
    private static void imageOfAFullRoom() {
        for (String room : Rooms.NAMES) {
            CribbageRoom x = Rooms.named(room);
            x.image(1);
            x.terms(0, 0);
            x.terms(1, 9);
            x.terms(2, 9);
            x.terms(3, 31);
            x.drop();
            x.hold(33);
            x.forget();
            x.seen(2, 2);
            x.force(-1);
            x.show();
            x.deal(31);
            x.lay(x.hand(0, 2), 0);
            x.lay(x.hand(1, 2), 1);
            x.play(x.hand(0, 1), x.count(6));
            int[] refused = {x.count(13), x.count(14), x.count(15)};
            Checks.due(room + ": back(1)", x.back(1), 0);
            Checks.due(room + ": status", x.status(), 0);
            for (int i = 0; i < 3; i++) {
                Checks.due(room + ": count(" + (13 + i) + ") is of all calls", x.count(13 + i), refused[i]);
            }
            Checks.due(room + ": nothing can be undone", x.count(11), 0);
            Twins.same(room + ", much and back(1)", Look.at(x), Look.at(Rooms.named(room)), List.of("count(11)"));
        }
        CribbageRoom x = Rooms.inPlay();
        Checks.due("back(0)", x.back(0), 0);
        Checks.due("nothing can be undone", x.count(11), 0);
        Checks.due("play", x.play(8, 0), 0);
        Checks.due("but what comes then", x.undo(), 2);
        Checks.due("no more", x.undo(), -3);
    }

    private static void imageOfWhatWasSeen() {
        CribbageRoom x = new CribbageRoom();
        Checks.hold(x, 0, 16, 17, 18, 43, 49);
        x.seen(19, 29);
        Checks.due("one can be", x.canBe(), 16);
        x.image(0);
        x.forget();
        x.seen(16, 5);
        x.seen(20, 999);
        Checks.due("none can be", x.canBe(), 0);
        x.image(1);
        Checks.due("back(0)", x.back(0), 0);
        Checks.due("as it was seen", x.canBe(), 16);
        Checks.due("SEEN", x.count(9), 1);
        x.back(1);
        Checks.due("as it was seen then", x.canBe(), 0);
        Checks.due("SEEN", x.count(9), 2);
        x.forget();
        Checks.due("all can be", x.canBe(), 32767);
        for (int i = 0; i < 6; i++) {
            x.seen(19, 29);
        }
        x.image(0);
        x.back(1);
        x.back(0);
        Checks.due("six", x.count(9), 6);
        Checks.due("each of the six", x.canBe(), 16);
    }

    private static void backToANewRoom() {
        CribbageRoom x = new CribbageRoom();
        x.image(0);
        CribbageRoom full = Rooms.full();
        Checks.due("back(0) of a full room, kept ahead of all", full.back(0), 0);
        int[] due = {0, 1, -1, 0, 0, 0, -1, -1, 0, 0, 0, 0, 400};
        for (int what = 0; what < due.length; what++) {
            Checks.due("count(" + what + ")", full.count(what), due[what]);
        }
        Checks.due("TERMS of then", full.count(20) * 1000 + full.count(21) * 100 + full.count(22), 3414);
        Checks.due("no PEGS", full.hand(0, 7) + full.hand(1, 7), 0);
        Checks.due("drawn stays", full.drawn(0) >= 0 ? 0 : -1, 0);
        Checks.due("jokers stay", full.jokers(), 2);
        Checks.due("stopped stays", full.stopped(), 1);
        Checks.due("refused stay", full.count(15), 2);
        Checks.due("again", full.back(0), 0);
        Checks.due("the other one", full.back(1), 0);
        Checks.due("PHASE 2", full.count(0), 2);
        Checks.due("nothing HELD", full.count(8), 0);
        Checks.due("COUNT", full.count(4), 11);
    }

    // ---- Promises 37 and 38 ----

    private static void countOfAll() {
        int[][] due = {
            {0, 1, -1, 0, 0, 0, -1, -1, 0, 0, 0, 0, 0, 0, 0, 0, 0, 0, -1, 0, 1, 0, 15},
            {1, 0, 14, 0, 0, 0, -1, -1, 0, 0, 0, 1, 0, 0, 0, 0, 0, 0, -1, 1, 1, 0, 15},
            {1, 0, 14, 2, 0, 0, -1, -1, 0, 0, 0, 3, 0, 0, 0, 0, 0, 0, -1, 1, 1, 0, 15},
            {2, 0, 14, 4, 0, 0, 1, -1, 0, 0, 0, 5, 0, 0, 0, 0, 0, 0, -1, 1, 1, 0, 15},
            {2, 0, 14, 4, 15, 3, 0, 1, 2, 1, 0, 8, 0, 0, 0, 0, 0, 0, -1, 1, 1, 0, 15},
            {2, 0, 14, 4, 16, 1, 0, 1, 0, 0, 1, 6, 0, 0, 0, 0, 0, 0, 0, 1, 1, 0, 15},
            {2, 0, 14, 4, 0, 0, -1, 0, 4, 0, 0, 13, 0, 0, 0, 0, 0, 0, -1, 1, 1, 0, 15},
            {3, 0, 14, 4, 0, 0, -1, 0, 6, 0, 0, 14, 0, 0, 0, 0, 0, 0, -1, 1, 1, 0, 15},
            {1, 1, 12, 2, 0, 0, -1, -1, 6, 6, 6, 16, 400, 0, 0, 2, 1, 2, 2, 2, 3, 4, 14}};
        for (int i = 0; i < due.length; i++) {
            CribbageRoom x = Rooms.named(Rooms.NAMES[i]);
            for (int what = 0; what < 23; what++) {
                Checks.due(Rooms.NAMES[i] + ": count(" + what + ")", x.count(what), due[i][what]);
            }
            for (int what : new int[] {-1, 23, Integer.MIN_VALUE, Integer.MAX_VALUE}) {
                Checks.due(Rooms.NAMES[i] + ": count(" + what + ")", x.count(what), -1);
            }
        }
    }

    /** Each call that can be refused by a number is counted once, by that number alone; IMAGES do not keep it. */
    private static void countOfRefused() {
        CribbageRoom x = new CribbageRoom();
        x.image(0);
        x.terms(9, 9);
        x.deal(-1);
        x.lay(-1, 0);
        x.play(0, 2);
        x.hold(52);
        x.seen(0, 1000);
        x.rubbers(0, 0);
        x.image(2);
        x.back(2);
        Checks.due("-1", x.count(13), 9);
        x.force(0);
        x.back(1);
        Checks.due("-2", x.count(14), 2);
        x.lay(0, 0);
        x.play(0, 0);
        x.show();
        x.undo();
        Checks.orders(x, "show");
        x.deal(5);
        x.deal(5);
        x.hold(1);
        x.hold(1);
        Checks.due("-3", x.count(15), 7);
        for (int i = 0; i < 7; i++) {
            Checks.law(x, "bars");
            x.seen(0, 0);
            x.hold(2 + i);
        }
        Checks.due("-5", x.count(16), 1 + 1 + 2);
        x.row();
        x.orders();
        x.back(0);
        x.law();
        Checks.due("-6", x.count(17), 3);
        int[] due = {9, 2, 7, 4, 3};
        for (int i = 0; i < 5; i++) {
            Checks.due("behind back(): count(" + (13 + i) + ")", x.count(13 + i), due[i]);
        }
    }

    private static void changes(String room, String call, Twins.Deed deed, long answer, String... changed) {
        Twins.changes(room, () -> Rooms.named(room), call, deed, answer, changed);
    }

    /** Each call that is not refused, at its edges: its answer, status() 0, and what it changes. */
    private static void whatIsChangedAndNoMore() {
        for (String room : new String[] {"a new room", "dealt", "laid"}) {
            changes(room, "hold(0)", x -> x.hold(0), 1, "card(0, 4)", "count(8)");
            changes(room, "hold(51)", x -> x.hold(51), 1, "card(51, 4)", "count(8)");
            changes(room, "drop() of none", CribbageRoom::drop, 0);
            changes(room, "seen(0, 0)", x -> x.seen(0, 0), 1, "count(9)");
            changes(room, "seen(51, 999)", x -> x.seen(51, 999), 1, "count(9)");
            changes(room, "forget() of none", CribbageRoom::forget, 0);
            changes(room, "force(-1)", x -> x.force(-1), -1);
            changes(room, "feed()", x -> x.feed(0, 0, 0, 0, 0), 20, "count(12)");
            changes(room, "row() of 51 and 52", x -> Checks.row(x, 51, 52), 1, "card(51, 4)", "count(8)", "jokers()");
            changes(room, "law()", x -> Checks.law(x, "bars"), 0, "count(10)");
            changes(room, "rubbers(0, 1)", x -> x.rubbers(0, 1) < 0 ? -1 : 0, 0, "drawn(0)", "drawn(1)");
            changes(room, "rubbers(1000000, 20)", x -> x.rubbers(1000000, 20) < 0 ? -1 : 0, 0, "drawn(0)", "drawn(1)");
        }
        changes("in play", "drop() of two", CribbageRoom::drop, 2, "card(9, 4)", "card(30, 4)", "count(8)");
        changes("in play", "forget() of one", CribbageRoom::forget, 1, "count(9)");
        changes("in play", "a law that bars 51", x -> x.force(Checks.law(x, "bars if rank=12 and suit=3")), -1, "card(51, 1)", "count(10)", "count(18)");
        changes("in play", "back(0)", x -> x.back(0), 0, "count(11)");
        changes("dealt", "lay(21, 0)", x -> x.lay(21, 0), 1, "card(21, 2)", "count(3)", "count(11)", "hand(0, 0)", "hand(0, 6)", "hand(0, 8)");
        // The fourth card laid: PHASE 2, PONE's TURN.
        Twins.Maker three = () -> {
            CribbageRoom x = Rooms.halfLaid();
            x.lay(0, 0);
            return x;
        };
        Twins.changes("three laid", three, "lay(21, 0)", x -> x.lay(21, 0), 4, "card(21, 2)", "count(0)", "count(3)", "count(6)", "count(11)", "hand(0, 0)",
            "hand(0, 5)", "hand(0, 8)");
        changes("laid", "play(24, 1)", x -> x.play(24, 1), 0, "card(24, 3)", "count(4)", "count(5)", "count(6)", "count(7)", "count(11)", "hand(1, 8)");
        changes("in play", "play(8, 0)", x -> x.play(8, 0), 0, "card(8, 3)", "count(4)", "count(5)", "count(6)", "count(7)", "count(11)", "hand(0, 8)");
        changes("in play", "undo()", CribbageRoom::undo, 2, "card(15, 3)", "count(4)", "count(5)", "count(6)", "count(7)", "count(11)", "hand(1, 7)", "hand(1, 8)");
        changes("played", "show()", CribbageRoom::show, 26, "count(0)", "count(11)", "hand(0, 7)", "hand(1, 7)");
        changes("shown", "undo()", CribbageRoom::undo, 3, "count(0)", "count(11)", "hand(0, 7)", "hand(1, 7)");
        // drop(), forget() leave status() as it was; so it is 0 ahead of them here.
        Twins.Maker full = () -> {
            CribbageRoom x = Rooms.full();
            x.force(2);
            return x;
        };
        Twins.changes("a full room", full, "drop() of six", CribbageRoom::drop, 6, "card(0, 4)", "card(4, 4)", "card(8, 4)", "card(13, 4)", "card(17, 4)", "card(48, 4)",
            "count(8)");
        Twins.changes("a full room", full, "forget() of six", CribbageRoom::forget, 6, "count(9)");
    }

    /** All calls but terms() and back() leave what can be undone; so do the refused ones of these two. */
    private static void whatCanBeUndoneStays() {
        Twins.Deed[] deeds = {x -> x.hold(1), CribbageRoom::drop, x -> x.seen(1, 1), CribbageRoom::forget, x -> x.force(Checks.law(x, "bars")),
            x -> Checks.law(x, "bars ?"), x -> Checks.row(x, 1, 2), x -> Checks.orders(x, "show if 1=2"), x -> Checks.orders(x, "play 8 by 0; show"),
            x -> x.rubbers(5, 20), x -> x.image(0), x -> x.image(1), x -> x.feed(0, 0, 0, 0, 0), x -> x.terms(0, 1000), x -> x.back(1), x -> x.deal(5),
            x -> x.lay(0, 0), x -> x.play(0, 0), CribbageRoom::show, x -> x.toEnd(0)};
        for (int i = 0; i < deeds.length; i++) {
            CribbageRoom x = Rooms.inPlay();
            deeds[i].on(x);
            Checks.due("behind call " + i, x.count(11), 8);
            int[] kinds = {2, 2, 2, 1, 1, 1, 1, 0};
            for (int kind : kinds) {
                Checks.due("undo() behind call " + i, x.undo(), kind);
            }
            Checks.due("none is left", x.undo(), -3);
        }
    }

    private static void statusOfEach() {
        Twins.Deed[] well = {x -> x.terms(1, 1), x -> Checks.row(x, 1), x -> Checks.law(x, "bars"), x -> Checks.orders(x, "show if 1=2"), x -> x.force(-1),
            x -> x.deal(5), x -> x.lay(0, 0), x -> x.hold(20), x -> x.seen(1, 1), x -> x.rubbers(5, 1), x -> x.image(0), x -> x.back(0)};
        Twins.Deed[] badly = {x -> x.terms(1, 11), CribbageRoom::row, CribbageRoom::law, CribbageRoom::orders, x -> x.force(9), x -> x.deal(5), x -> x.lay(1, 0),
            x -> x.hold(20), x -> x.seen(1, -1), x -> x.rubbers(5, 0), x -> x.image(3), x -> x.back(1)};
        int[] codes = {-1, -6, -6, -6, -2, -3, -3, -3, -1, -1, -1, -2};
        CribbageRoom x = new CribbageRoom();
        for (int i = 0; i < well.length; i++) {
            x.show();
            Checks.due("show() is refused", x.status(), -3);
            well[i].on(x);
            Checks.due("call " + i + " is not", x.status(), 0);
            Checks.due("call " + i + " is refused", badly[i].on(x), codes[i]);
            Checks.due("status() behind call " + i, x.status(), codes[i]);
        }
        CribbageRoom y = Checks.laid();
        y.hold(-1);
        y.play(24, 1);
        Checks.due("play() is not refused", y.status(), 0);
        y.hold(-1);
        y.undo();
        Checks.due("undo() is not refused", y.status(), 0);
        CribbageRoom z = Rooms.played();
        z.hold(-1);
        z.show();
        Checks.due("show() is not refused", z.status(), 0);
    }

    private static void statusOfOthers() {
        Twins.Deed[] others = {x -> x.card(0, 0), x -> x.hand(9, 9), x -> x.feed(0, 0, 0, 0, 0), x -> x.end(0), x -> x.end(999), x -> x.jokers(), x -> x.fault(),
            x -> x.stopped(), x -> x.drop(), x -> x.counted(0, 0, 0), x -> x.kept(0), x -> x.cribOf(0, 0), x -> x.cribOf(0, 1), x -> x.byStarters(0),
            x -> x.bestStarter(0), x -> x.toEnd(0), x -> x.forget(), x -> x.canBe(), x -> x.ask(0), x -> x.few(0, 0), x -> x.few(1, 1), x -> x.compare(9, 9),
            x -> x.drawn(9), x -> x.count(99), x -> x.status()};
        int[] codes = {-1, -2, -3, -5, -6, 0};
        for (int code : codes) {
            CribbageRoom x = Rooms.full();
            int answer = code == -1 ? x.hold(-1) : code == -2 ? x.force(6) : code == -3 ? x.show() : code == -5 ? x.hold(51) : code == -6 ? x.orders() : x.image(0);
            Checks.due("a call", answer, code);
            for (int i = 0; i < others.length; i++) {
                others[i].on(x);
                Checks.due("status() behind call " + i, x.status(), code);
            }
        }
    }

    // ---- 512 calls ----

    /** A room's 512th call is as good as its first, whatever 511 came ahead of it. */
    private static void the512thCall() {
        CribbageRoom x = new CribbageRoom();
        for (int i = 0; i < 511; i++) {
            x.hold(-1);
        }
        Checks.due("511 were refused", x.count(13), 511);
        CribbageRoom y = new CribbageRoom();
        y.image(0);
        y.hold(1);
        y.image(1);
        for (int i = 0; i < 254; i++) {
            y.back(1 - i % 2);
            y.image(i % 2);
        }
        Checks.due("the 512th", y.back(1), 0);
        CribbageRoom z = new CribbageRoom();
        z.image(0);
        for (int i = 0; i < 127; i++) {
            z.feed(0x76616c75, 0x65203720, 0x20202020, 0x20202020, 0x20202020);
            Checks.due("law", z.law(), 0);
            z.force(0);
            z.back(0);
        }
        z.deal(5);
        Checks.due("dealt", z.hand(0, 2), 7);
        CribbageRoom w = new CribbageRoom();
        for (int i = 0; i < 102; i++) {
            w.deal(i);
            w.lay(w.hand(0, 1), 0);
            w.undo();
            w.undo();
        }
        Checks.due("undone", w.count(19), 0);
        Checks.due("the 512th", w.deal(5), 14);
        CribbageRoom v = new CribbageRoom();
        for (int i = 0; i < 511; i++) {
            v.rubbers(i, 20);
        }
        Checks.due("on paper", v.count(19), 0);
    }
}
