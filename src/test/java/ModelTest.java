import java.nio.charset.StandardCharsets;
import java.util.Random;

/** Runs of calls by chance: the class answers as the plain model does, and stands as it does behind each. */
public final class ModelTest {
    private final Random random;
    private final Texts texts;
    private final CribbageRoom room = new CribbageRoom();
    private final Model model = new Model();
    private final StringBuilder log = new StringBuilder();
    private int dear;
    private int used;
    private boolean well = true;

    private ModelTest(long seed) {
        random = new Random(seed);
        texts = new Texts(random);
    }

    public static void main(String[] args) {
        int runs = args.length > 0 ? Integer.parseInt(args[0]) : 400;
        long first = args.length > 1 ? Long.parseLong(args[1]) : 1;
        for (int i = 0; i < runs; i++) {
            new ModelTest(first + i).run(first + i);
        }
        Checks.end("ModelTest");
    }

    private void run(long seed) {
        dear = seed % 8 == 0 ? 1 : 0;
        if (seed % 2 == 0) {
            feed(("deal " + random.nextInt(1000) + "; lay card 0 by 0 times 2; lay card 6 by 1 times 2").getBytes(StandardCharsets.US_ASCII));
            same("orders()", room.orders(), model.orders());
        }
        // An object is used for 512 calls: a step takes 25 at most, a look at the state 51.
        while (used < 430 && well) {
            step();
            if (used < 400 && random.nextInt(40) == 0) {
                compareState();
            }
        }
        compareState();
        if (!well) {
            System.out.println("seed " + seed + "\n" + log);
        }
    }

    private void same(String call, long got, long want) {
        log.append(call).append(" -> ").append(want).append('\n');
        used++;
        Checks.due(call, got, want);
        well = well && got == want;
    }

    private int about(int least, int most) {
        int kind = random.nextInt(25);
        if (kind == 0) {
            return least - 1;
        }
        if (kind == 1) {
            return most + 1;
        }
        if (kind == 2) {
            return new int[] {Integer.MIN_VALUE, Integer.MAX_VALUE, least, most}[random.nextInt(4)];
        }
        return least + random.nextInt(most - least + 1);
    }

    private void compareState() {
        used += 51;
        for (int what = -1; what <= 23; what++) {
            if (room.count(what) != model.count(what)) {
                same("count(" + what + ")", room.count(what), model.count(what));
            }
        }
        for (int player = 0; player < 2; player++) {
            for (int what = 0; what <= 9; what++) {
                if (room.hand(player, what) != model.hand(player, what)) {
                    same("hand(" + player + ", " + what + ")", room.hand(player, what), model.hand(player, what));
                }
            }
        }
        if (room.status() != model.status() || room.fault() != model.fault() || room.stopped() != model.stopped()) {
            same("status()", room.status(), model.status());
            same("fault()", room.fault(), model.fault());
            same("stopped()", room.stopped(), model.stopped());
        }
    }

    private void step() {
        int kind = random.nextInt(100);
        if (kind < 45) {
            tableStep();
        } else if (kind < 65) {
            textStep();
        } else if (kind < 71) {
            holdStep();
        } else if (kind < 92) {
            paperStep();
        } else {
            restStep();
        }
    }

    /** Mostly what can be done now. */
    private void tableStep() {
        int phase = model.count(0);
        int turn = model.count(6);
        int kind = random.nextInt(20);
        if (kind == 0) {
            same("undo()", room.undo(), model.undo());
        } else if (kind == 1) {
            int card = about(0, 51);
            int player = about(0, 1);
            same("lay(" + card + ", " + player + ")", room.lay(card, player), model.lay(card, player));
            same("play(" + card + ", " + player + ")", room.play(card, player), model.play(card, player));
        } else if (kind == 2) {
            same("toEnd", room.toEnd(kind - 2), model.toEnd(kind - 2));
            same("toEnd", room.toEnd(1), model.toEnd(1));
        } else if (phase == 0 || phase == 3) {
            int seed = about(0, 1000000);
            same("deal(" + seed + ")", room.deal(seed), model.deal(seed));
        } else if (phase == 1) {
            int player = random.nextInt(2);
            int card = model.hand(player, 1 + random.nextInt(6));
            same("lay(" + card + ", " + player + ")", room.lay(card, player), model.lay(card, player));
        } else if (turn == -1) {
            same("show()", room.show(), model.show());
        } else {
            int card = model.hand(turn, 1 + random.nextInt(4));
            same("play(" + card + ", " + turn + ")", room.play(card, turn), model.play(card, turn));
        }
    }

    private void feed(byte[] bytes) {
        for (int from = 0; from < bytes.length; from += 20) {
            int[] n = new int[5];
            for (int i = 0; i < 20; i++) {
                n[i / 4] = n[i / 4] << 8 | (from + i < bytes.length ? bytes[from + i] & 255 : 32);
            }
            same("feed", room.feed(n[0], n[1], n[2], n[3], n[4]), model.feed(n[0], n[1], n[2], n[3], n[4]));
        }
        int n = random.nextInt(30) == 0 ? about(0, 400) : bytes.length;
        same("end(" + n + ")", room.end(n), model.end(n));
    }

    private void textStep() {
        boolean law = random.nextInt(3) == 0;
        int kind = random.nextInt(12);
        if (kind < 3) {
            // Four or six that lie near one another mostly, so that something counts.
            int first = random.nextInt(13);
            byte[] bytes = new byte[kind == 0 ? random.nextInt(12) : kind == 1 ? 4 : 6];
            for (int i = 0; i < bytes.length; i++) {
                bytes[i] = (byte) (kind == 0 ? about(0, 51) : (4 * first + 5 * i + 7 * random.nextInt(3)) % 52);
            }
            feed(bytes);
            same("row()", room.row(), model.row());
            same("jokers()", room.jokers(), model.jokers());
            return;
        }
        if (kind < 5) {
            int number = about(-1, 5);
            same("force(" + number + ")", room.force(number), model.force(number));
            return;
        }
        String text = random.nextInt(40) == 0 ? "   " : texts.text(law);
        log.append(text).append('\n');
        byte[] bytes = new byte[text.length()];
        for (int i = 0; i < bytes.length; i++) {
            bytes[i] = (byte) text.charAt(i);
        }
        feed(bytes);
        if (law) {
            same("law()", room.law(), model.law());
        } else {
            same("orders()", room.orders(), model.orders());
        }
    }

    private void holdStep() {
        int kind = random.nextInt(12);
        if (kind == 0) {
            same("drop()", room.drop(), model.drop());
        } else if (kind < 8) {
            int card = random.nextInt(3) == 0 ? about(0, 51) : 4 * random.nextInt(13) + random.nextInt(2);
            same("hold(" + card + ")", room.hold(card), model.hold(card));
        } else if (kind == 8) {
            same("forget()", room.forget(), model.forget());
        } else {
            int starter = about(0, 51);
            // Something that one of the fours counts, so that not all is ruled out.
            int n = random.nextInt(3) == 0 ? about(0, 999) : random.nextInt(9);
            same("seen(" + starter + ", " + n + ")", room.seen(starter, n), model.seen(starter, n));
        }
    }

    private void paperStep() {
        int what = about(0, 1);
        int starter = about(0, 51);
        switch (random.nextInt(9)) {
            case 0 -> {
                int crib = about(0, 1);
                for (int part = -1; part <= 6; part++) {
                    same("counted(" + starter + ", " + crib + ", " + part + ")", room.counted(starter, crib, part), model.counted(starter, crib, part));
                }
            }
            case 1 -> {
                for (int part = -1; part <= 3; part++) {
                    same("kept(" + part + ")", room.kept(part), model.kept(part));
                }
            }
            case 2 -> {
                int other = about(0, 51);
                boolean cheap = starter == other || starter < 0 || starter > 51 || other < 0 || other > 51;
                if (cheap || dear > 0) {
                    dear -= cheap ? 0 : 1;
                    same("cribOf(" + starter + ", " + other + ")", room.cribOf(starter, other), model.cribOf(starter, other));
                }
            }
            case 3 -> {
                int n = random.nextInt(3) == 0 ? about(0, 999) : random.nextInt(20);
                same("byStarters(" + n + ")", room.byStarters(n), model.byStarters(n));
            }
            case 4 -> same("bestStarter(" + what + ")", room.bestStarter(what), model.bestStarter(what));
            case 5 -> same("canBe()", room.canBe(), model.canBe());
            case 6 -> same("ask(" + what + ")", room.ask(what), model.ask(what));
            case 7 -> {
                int k = about(1, 20);
                int n = about(0, 99);
                same("few(" + k + ", " + n + ")", room.few(k, n), model.few(k, n));
            }
            default -> {
                int law = about(-1, 2);
                same("compare(" + law + ", " + starter + ")", room.compare(law, starter), model.compare(law, starter));
            }
        }
    }

    private void restStep() {
        int kind = random.nextInt(8);
        if (kind < 2) {
            int k = about(0, 1);
            same("image(" + k + ")", room.image(k), model.image(k));
        } else if (kind == 2) {
            int k = about(0, 1);
            same("back(" + k + ")", room.back(k), model.back(k));
        } else if (kind == 3) {
            int seed = about(0, 1000000);
            int n = about(1, 20);
            same("rubbers(" + seed + ", " + n + ")", room.rubbers(seed, n), model.rubbers(seed, n));
            same("drawn(0)", room.drawn(0), model.drawn(0));
            same("drawn(1)", room.drawn(1), model.drawn(1));
        } else if (kind == 4) {
            int what = about(0, 3);
            int value = random.nextInt(2) == 0 ? about(0, 10) : what == 0 ? about(990, 999) : about(5, 31);
            same("terms(" + what + ", " + value + ")", room.terms(what, value), model.terms(what, value));
        } else {
            int card = about(0, 51);
            for (int what = -1; what <= 5; what++) {
                same("card(" + card + ", " + what + ")", room.card(card, what), model.card(card, what));
            }
        }
    }
}
