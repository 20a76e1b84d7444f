import java.util.Random;

/** Whatever is called with whatever numbers in whatever state: nothing is thrown, and all answers end. */
public final class WildTest {
    private static final int[] EDGES = {Integer.MIN_VALUE, Integer.MIN_VALUE + 1, -1000001, -1001, -53, -7, -2, -1, 0, 1, 2, 3, 4, 5, 6, 7, 8, 9,
        10, 11, 12, 15, 19, 20, 21, 31, 32, 51, 52, 53, 99, 100, 399, 400, 401, 998, 999, 1000, 9999, 1000000, 1000001, Integer.MAX_VALUE};
    private static final int TEXT_OF_LAW = 37;
    private static final int TEXT_OF_ORDERS = 38;
    private final Random random;
    private final Texts texts;
    private final CribbageRoom x = new CribbageRoom();

    private WildTest(long seed) {
        random = new Random(seed);
        texts = new Texts(random);
    }

    public static void main(String[] args) {
        for (int seed = 0; seed < 400; seed++) {
            WildTest run = new WildTest(seed);
            String thrown = "";
            try {
                // An object is used for 512 calls; a text takes 22 at most.
                for (int calls = 0; calls < 490; calls++) {
                    int kind = run.random.nextInt(42);
                    run.call(kind, calls);
                    calls += kind == TEXT_OF_LAW || kind == TEXT_OF_ORDERS ? 21 : kind > TEXT_OF_ORDERS ? 1 : 0;
                }
            } catch (RuntimeException | StackOverflowError e) {
                thrown = e.toString();
                e.printStackTrace(System.out);
            }
            Checks.isSo("seed " + seed + " throws nothing " + thrown, thrown.isEmpty());
        }
        Checks.end("WildTest");
    }

    private int n() {
        int kind = random.nextInt(10);
        return kind < 2 ? random.nextInt() : kind < 5 ? EDGES[random.nextInt(EDGES.length)] : random.nextInt(kind < 8 ? 52 : 8);
    }

    private void call(int kind, int i) {
        switch (kind) {
            case 0 -> x.card(n(), n());
            case 1 -> x.hand(n(), n());
            case 2 -> x.terms(n(), n());
            case 3 -> x.feed(random.nextInt(), random.nextInt(), n(), n(), n());
            case 4 -> x.end(n());
            case 5 -> x.row();
            case 6 -> x.jokers();
            case 7 -> x.law();
            case 8 -> x.orders();
            case 9 -> x.fault();
            case 10 -> x.stopped();
            case 11 -> x.force(n());
            case 12 -> x.deal(n());
            case 13 -> x.lay(n(), n());
            case 14 -> x.play(n(), n());
            case 15 -> x.show();
            case 16 -> x.undo();
            case 17 -> x.hold(n());
            case 18 -> x.drop();
            case 19 -> x.counted(n(), n(), n());
            case 20 -> x.kept(n());
            case 21 -> x.cribOf(n(), n());
            case 22 -> x.byStarters(n());
            case 23 -> x.bestStarter(n());
            case 24 -> x.toEnd(n());
            case 25 -> x.seen(n(), n());
            case 26 -> x.forget();
            case 27 -> x.canBe();
            case 28 -> x.ask(n());
            case 29 -> x.few(n(), n());
            case 30 -> x.compare(n(), n());
            case 31 -> x.rubbers(n(), n());
            case 32 -> x.drawn(n());
            case 33 -> x.image(n());
            case 34 -> x.back(n());
            case 35 -> x.count(n());
            case 36 -> x.status();
            case TEXT_OF_LAW -> Checks.law(x, texts.text(true));
            case TEXT_OF_ORDERS -> Checks.orders(x, texts.text(false));
            case 39 -> x.lay(x.hand(i % 2, 1 + i % 6), i % 2);
            case 40 -> x.play(x.hand(i % 2, 1 + i % 4), i % 2);
            default -> x.end(0);
        }
    }
}
