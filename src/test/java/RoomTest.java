/** Promises 33 to 38: rubbers, images, counts and status. */
public final class RoomTest {
    public static void main(String[] args) {
        promise33Rubbers();
        promise33ByHand();
        promise34Drawn();
        promise35Image();
        promise36Back();
        promise36BackLeaves();
        promise37Count();
        promise38Status();
        Checks.end("RoomTest");
    }

    private static void promise33Rubbers() {
        CribbageRoom x = new CribbageRoom();
        for (int[] bad : new int[][] {{-1, 1}, {1000001, 1}, {0, 0}, {0, 21}, {0, -3}}) {
            Checks.due("rubbers(" + bad[0] + ", " + bad[1] + ")", x.rubbers(bad[0], bad[1]), -1);
        }
        Checks.due("status", x.status(), -1);
        Checks.due("rubbers(5, 1)", x.rubbers(5, 1), 23);
        Checks.due("status", x.status(), 0);
        Checks.due("on paper", x.count(0) + x.count(19) + x.hand(0, 7) + x.count(11), 0);
        Checks.isSo("rubbers(0, 20)", x.rubbers(0, 20) > 0);
        Checks.isSo("rubbers(1000000, 20)", x.rubbers(1000000, 20) > 0);
        x.terms(0, 999);
        Checks.due("no deal can be", x.rubbers(5, 20), 0);
        x.terms(0, 998);
        Checks.due("one deal can be", x.rubbers(5, 20), 23);
        x.terms(0, 0);
        Checks.rule(x, "fifteen 0; pair 0; run 0; flush 0; nob 0; bars");
        Checks.due("nothing but jacks as starters", x.rubbers(5, 1), 0);
        Checks.rule(x, "fifteen 0; pair 0; run 0; flush 0; nob 0; bars if deal > 1; bars if deal = 1 and not rank = 6");
        // In the first deal 24, a seven, can be played, and no other one: 1 for the last.
        Checks.due("the law is asked anew each deal", x.rubbers(5, 1), 1);
    }

    private static final String RULE = "pair deal; value 11 if rank = 12; bars if rank = 0 and suit = 1; run size * 2 if crib = 0 - 1";

    /** The same by calls: the two highest laid, the lowest played; each deal in a room of its own, in which 0 is DEALER. */
    private static void promise33ByHand() {
        CribbageRoom paper = new CribbageRoom();
        Checks.rule(paper, RULE);
        paper.terms(3, 14);
        int[] pegs = new int[2];
        int s = 77;
        for (int i = 0; i < 20; i++) {
            CribbageRoom x = new CribbageRoom();
            Checks.rule(x, RULE);
            x.terms(3, 14);
            x.terms(0, i);
            oneByHand(x, s);
            for (int k = 0; k < 13; k++) {
                s = (int) ((s * 1103L + 12345) % 1000003);
            }
            pegs[i % 2] += x.hand(0, 7);
            pegs[1 - i % 2] += x.hand(1, 7);
            Checks.due("rubbers(77, " + (i + 1) + ")", paper.rubbers(77, i + 1), pegs[0] + pegs[1]);
            Checks.due("drawn(0)", paper.drawn(0), pegs[0]);
            Checks.due("drawn(1)", paper.drawn(1), pegs[1]);
        }
    }

    private static void oneByHand(CribbageRoom x, int seed) {
        x.deal(seed);
        x.lay(x.hand(1, 6), 1);
        x.lay(x.hand(1, 5), 1);
        x.lay(x.hand(0, 6), 0);
        x.lay(x.hand(0, 5), 0);
        for (int n = 0; n < 32 && x.count(6) >= 0; n++) {
            x.play(x.hand(x.count(6), 1 + n % 4), x.count(6));
            // From the lowest again behind a play.
            n = x.status() == 0 ? -1 : n;
        }
        x.show();
    }

    private static void promise34Drawn() {
        CribbageRoom x = new CribbageRoom();
        Checks.due("ahead of any", x.drawn(0), -1);
        Checks.due("ahead of any", x.drawn(1), -1);
        x.rubbers(-1, 1);
        Checks.due("refused ones are none", x.drawn(0), -1);
        x.rubbers(5, 1);
        Checks.due("drawn(0)", x.drawn(0), 19);
        Checks.due("drawn(1)", x.drawn(1), 4);
        Checks.due("drawn(2)", x.drawn(2), -1);
        Checks.due("drawn(-1)", x.drawn(-1), -1);
        x.rubbers(5, 0);
        Checks.due("the latest stay", x.drawn(0), 19);
        x.image(0);
        x.rubbers(5, 2);
        int was = x.drawn(0);
        x.back(0);
        Checks.due("images do not keep them", x.drawn(0), was);
        x.terms(0, 999);
        x.rubbers(5, 3);
        Checks.due("pegs as they are", x.drawn(0), 0);
    }

    private static CribbageRoom full() {
        CribbageRoom x = Checks.laid();
        x.play(24, 1);
        x.hold(9);
        x.hold(10);
        x.seen(3, 4);
        x.force(Checks.law(x, "value 7"));
        return x;
    }

    private static void promise35Image() {
        CribbageRoom x = full();
        Checks.due("image(-1)", x.image(-1), -1);
        Checks.due("image(2)", x.image(2), -1);
        Checks.due("status", x.status(), -1);
        Checks.due("image(0)", x.image(0), 0);
        Checks.due("status", x.status(), 0);
        Checks.due("image(1)", x.image(1), 0);
        x.drop();
        Checks.due("again", x.image(1), 0);
        Checks.due("it leaves what can be undone", x.count(11), 6);
        x.back(0);
        Checks.due("0 has two held", x.count(8), 2);
        x.back(1);
        Checks.due("1 has none held", x.count(8), 0);
    }

    private static void promise36Back() {
        CribbageRoom x = full();
        Checks.due("back(-1)", x.back(-1), -1);
        Checks.due("back(2)", x.back(2), -1);
        Checks.due("back(0), not kept", x.back(0), -2);
        Checks.due("status", x.status(), -2);
        x.image(0);
        int[] were = new int[23];
        for (int what = 0; what < 23; what++) {
            were[what] = x.count(what);
        }
        x.play(13, 0);
        x.play(15, 1);
        x.hold(30);
        x.seen(5, 5);
        x.force(Checks.law(x, "value 3"));
        x.terms(0, 40);
        x.terms(1, 4);
        x.terms(2, 4);
        x.terms(3, 14);
        Checks.due("back(0)", x.back(0), 0);
        for (int what = 0; what < 23; what++) {
            boolean kept = what != 11 && what != 12 && !(what >= 13 && what <= 17);
            Checks.due("back: count(" + what + ")", x.count(what), kept ? were[what] : x.count(what));
        }
        Checks.due("nothing can be undone", x.count(11), 0);
        Checks.due("13 is not played", x.card(13, 3), 0);
        Checks.due("30 is not held", x.card(30, 4), 0);
        Checks.due("value by law 0", x.card(13, 0), 7);
        Checks.due("the next law is 1", Checks.law(x, "value 9"), 1);
        x.force(1);
        Checks.due("value by it", x.card(13, 0), 9);
        Checks.due("images stay", x.back(0), 0);
        Checks.due("value", x.card(13, 0), 7);
        Checks.due("laws", x.count(10), 1);
        Checks.due("pegs", x.hand(1, 7), 0);
    }

    private static void promise36BackLeaves() {
        CribbageRoom x = full();
        x.image(1);
        Checks.write(x, "\u0001\u0001\u0001");
        x.row();
        Checks.orders(x, "show");
        Checks.law(x, "bars 1");
        Checks.write(x, "bars");
        x.hold(88);
        Checks.due("back(1)", x.back(1), 0);
        Checks.due("jokers", x.jokers(), 2);
        Checks.due("stopped", x.stopped(), 0);
        Checks.due("fault", x.fault(), 5);
        Checks.due("tape", x.count(12), 4);
        Checks.due("refused by -1", x.count(13), 1);
        Checks.due("refused by -3", x.count(15), 1);
        Checks.due("refused by -6", x.count(17), 1);
        Checks.due("status", x.status(), 0);
    }

    private static void promise37Count() {
        CribbageRoom x = full();
        Checks.write(x, "abc");
        int[] counts = {2, 0, 14, 4, 7, 1, 0, 1, 2, 1, 1, 6, 3, 0, 0, 0, 0, 0, 0, 1, 1, 0, 15};
        for (int what = 0; what < counts.length; what++) {
            Checks.due("count(" + what + ")", x.count(what), counts[what]);
        }
        for (int what : new int[] {-1, 23, Integer.MAX_VALUE, Integer.MIN_VALUE}) {
            Checks.due("count(" + what + ")", x.count(what), -1);
        }
        x.hold(60);
        x.terms(9, 9);
        x.force(4);
        x.deal(4);
        x.hold(9);
        x.undo();
        x.show();
        for (int i = 0; i < 7; i++) {
            x.seen(0, 0);
        }
        x.law();
        x.card(99, 9);
        x.counted(99, 9, 9);
        int[] refused = {2, 1, 3, 2, 1};
        for (int i = 0; i < 5; i++) {
            Checks.due("refused: count(" + (13 + i) + ")", x.count(13 + i), refused[i]);
        }
    }

    /** Each call of status()'s list that is refused or granted, and some that are none of the list. */
    private static void promise38Status() {
        CribbageRoom x = new CribbageRoom();
        Checks.due("ahead of any", x.status(), 0);
        int[] answers = {x.terms(0, -1), x.status(), x.terms(0, 0), x.status(), x.row(), x.status(), x.law(), x.status(), x.orders(), x.status(),
            x.force(3), x.status(), x.force(-1), x.status(), x.show(), x.status(), x.deal(-1), x.status(), x.deal(5), x.status(),
            x.lay(0, 9), x.status(), x.lay(0, 0), x.status(), x.play(0, 0), x.status(), x.undo(), x.status(), x.hold(-1), x.status(),
            x.hold(1), x.status(), x.seen(0, -1), x.status(), x.seen(0, 0), x.status(), x.rubbers(0, 0), x.status(), x.image(5), x.status(),
            x.image(1), x.status(), x.back(0), x.status(), x.back(1), x.status()};
        int[] due = {-1, -1, 0, 0, -6, -6, -6, -6, -6, -6,
            -2, -2, -1, 0, -3, -3, -1, -1, 14, 0,
            -1, -1, 1, 0, -3, -3, 1, 0, -1, -1,
            1, 0, -1, -1, 1, 0, -1, -1, -1, -1,
            0, 0, -2, -2, 0, 0};
        for (int i = 0; i < due.length; i++) {
            Checks.due("status row " + i, answers[i], due[i]);
        }
        x.undo();
        x.card(99, 0);
        x.hand(9, 9);
        x.feed(0, 0, 0, 0, 0);
        x.end(-1);
        x.jokers();
        x.fault();
        x.stopped();
        x.drop();
        x.counted(0, 0, 0);
        x.kept(0);
        x.cribOf(0, 0);
        x.byStarters(0);
        x.bestStarter(0);
        x.toEnd(0);
        x.forget();
        x.canBe();
        x.ask(0);
        x.few(0, 0);
        x.compare(9, 9);
        x.drawn(9);
        x.count(99);
        Checks.due("others leave it", x.status(), -3);
        Checks.due("refused by -1 in all", x.count(13), 7);
    }
}
