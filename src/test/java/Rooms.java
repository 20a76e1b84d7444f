/**
 * Rooms in every phase of one deal, seed 5, and full ones. Each is made in few calls: an object is used for 512,
 * and a Look at one takes some 300 of these.
 */
final class Rooms {
    static final String[] NAMES = {"a new room", "dealt", "half laid", "laid", "in play", "32 ahead", "played", "shown", "a full room"};
    static final int[] PONE_PLAYS = {24, 15, 9, 23};
    static final int[] DEALER_PLAYS = {13, 8, 10, 7};
    /** All of a deal by seed 5, as orders. */
    static final String LAID = "deal 5;lay 45 by 1;lay 46 by 1;lay 0 by 0;lay 21 by 0";
    static final String PLAYED = "play 24 by 1;play 13 by 0;play 15 by 1;play 8 by 0;play 9 by 1;play 10 by 0;play 23 by 1;play 7 by 0";

    private Rooms() {
    }

    static CribbageRoom named(String name) {
        switch (name) {
            case "a new room": return new CribbageRoom();
            case "dealt": return Checks.dealt();
            case "half laid": return halfLaid();
            case "laid": return Checks.laid();
            case "in play": return inPlay();
            case "32 ahead": return thirtyTwoAhead();
            case "played": return played();
            case "shown": return shown();
            case "a full room": return full();
            default: throw new IllegalArgumentException(name);
        }
    }

    /** PONE has laid both of its cards, DEALER none. */
    static CribbageRoom halfLaid() {
        CribbageRoom x = Checks.dealt();
        x.lay(45, 1);
        x.lay(46, 1);
        return x;
    }

    /** 24, 13 and 15 are played: COUNT is 15, it is 0's TURN, and 1 has 4 PEGS; two are held, one was seen. */
    static CribbageRoom inPlay() {
        CribbageRoom x = Checks.laid();
        x.play(24, 1);
        x.play(13, 0);
        x.play(15, 1);
        x.hold(9);
        x.hold(30);
        x.seen(3, 4);
        x.image(0);
        return x;
    }

    /** COUNT is 16, 0's TURN: its 7 makes 31 of that, its 13, 8 and 10 would make 32. */
    static CribbageRoom thirtyTwoAhead() {
        CribbageRoom x = Checks.laid();
        Checks.rule(x, "value 16; value 15 if rank = 1");
        x.play(24, 1);
        return x;
    }

    static void playAll(CribbageRoom x) {
        for (int i = 0; i < 4; i++) {
            x.play(PONE_PLAYS[i], 1);
            x.play(DEALER_PLAYS[i], 0);
        }
    }

    /** All eight are played: nobody's TURN; four are held. */
    static CribbageRoom played() {
        CribbageRoom x = Checks.laid();
        playAll(x);
        Checks.hold(x, 9, 15, 23, 24);
        return x;
    }

    static CribbageRoom shown() {
        CribbageRoom x = played();
        x.show();
        x.hold(30);
        x.hold(31);
        return x;
    }

    /** Six held, six seen, six laws, sixteen to be undone, 400 bytes on the tape, both images, a fault, a stop, jokers. */
    static CribbageRoom full() {
        CribbageRoom x = new CribbageRoom();
        x.terms(1, 3);
        x.terms(2, 4);
        x.terms(3, 14);
        x.image(0);
        Checks.orders(x, LAID + ";" + PLAYED.substring(0, PLAYED.indexOf(";play 15")));
        x.image(1);
        Checks.orders(x, PLAYED.substring(PLAYED.indexOf("play 15")) + ";show");
        Checks.orders(x, "deal 9;lay card 0 by 0 times 2");
        for (int i = 0; i < 6; i++) {
            Checks.law(x, "value " + (i + 3) + " + suit; pair mood + " + i + "; bars if rank = " + i);
        }
        x.force(2);
        x.rubbers(5, 1);
        Checks.row(x, 0, 4, 8, 13, 17, 48, 48, 255);
        for (int i = 0; i < 6; i++) {
            x.seen(20 + i, 3 + i);
        }
        Checks.orders(x, "lay card 6 by 1; show");
        Checks.write(x, "lay 1 by");
        x.end(8);
        x.law();
        x.orders();
        Checks.write(x, "show if ?");
        x.orders();
        Checks.orders(x, "lay card 6 by 1; show");
        for (int i = 0; i < 20; i++) {
            x.feed(0x00010203 + i, 0x34333231, 0x20202020, i, -1);
        }
        return x;
    }
}
