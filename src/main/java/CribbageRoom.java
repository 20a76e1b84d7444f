import java.util.Arrays;

/**
 * A cribbage room: a table for two, house rules (LAWS) and ORDERS in two small languages, and questions
 * answered on paper. Sets of cards are bits of a long, bit k for card k.
 */
public final class CribbageRoom {
    public static final int NONE = -1;

    private static final int CARDS = 52;
    private static final int RANKS = 13;
    private static final int JACK = 10;
    private static final int PLAYERS = 2;
    private static final int TAPE = 400;
    private static final int CLAUSES = 12;
    private static final int LAWS = 6;
    private static final int HELD = 6;
    private static final int SEEN = 6;
    private static final int FOURS = 15;
    private static final int TERMS = 4;
    private static final int LAST_DEAL = 999;
    private static final int MOST_PEGS = 9999;
    private static final int MOST_COUNT = 31;
    private static final int SEEDS = 1000000;
    private static final int NO_END = -1000;
    // Far below what any play can come to.
    private static final int NO_PLAY = -1000000;
    private static final long ALL_CARDS = (1L << CARDS) - 1;

    private static final int PHASE_NOTHING = 0;
    private static final int PHASE_LAYING = 1;
    private static final int PHASE_PLAYING = 2;
    private static final int PHASE_SHOWN = 3;

    private static final int BAD_NUMBER = -1;
    private static final int NOT_THERE = -2;
    private static final int NOT_NOW = -3;
    private static final int NO_ROOM = -5;
    private static final int BAD_TEXT = -6;

    private static final int A_DEAL = 0;
    private static final int A_LAY = 1;
    private static final int A_PLAY = 2;
    private static final int A_SHOW = 3;

    // The places where something counts: rows of Worth.
    private static final int IN_HAND = 0;
    private static final int IN_CRIB = 1;
    private static final int IN_PLAY = 2;
    private static final int PLACES = 3;

    // All words of both languages, each followed by a blank; a word's number is its place in this row.
    private static final String WORDS =
        "value fifteen pair run flush nob bars lay play show deal rank suit size crib mood phase done latest count turn pegs card if times by or and not ";
    private static final int VALUE = 0;
    private static final int FIFTEEN = 1;
    private static final int PAIR = 2;
    private static final int RUN = 3;
    private static final int FLUSH = 4;
    private static final int NOB = 5;
    private static final int BARS = 6;
    private static final int LAY = 7;
    private static final int PLAY = 8;
    private static final int SHOW = 9;
    private static final int DEAL = 10;
    private static final int MOOD = 15;
    private static final int PHASE = 16;
    private static final int PEGS = 21;
    private static final int CARD = 22;
    private static final int IF = 23;
    private static final int TIMES = 24;
    private static final int BY = 25;
    private static final int OR = 26;
    private static final int AND = 27;
    private static final int NOT = 28;

    // What a LAW's words stand for: places in the words of its Sums.
    private static final int OF_DEAL = 0;
    private static final int OF_RANK = 1;
    private static final int OF_SUIT = 2;
    private static final int OF_SIZE = 3;
    private static final int OF_CRIB = 4;
    private static final int OF_MOOD = 5;

    // The same of ORDERS.
    private static final int OF_PHASE = 0;
    private static final int OF_DONE = 1;
    private static final int OF_LATEST = 2;
    private static final int OF_COUNT = 3;
    private static final int OF_TURN = 4;
    private static final int OF_PEGS = 5;
    private static final int OF_CARD = 7;
    private static final int WORDS_TOLD = 19;

    // What Sums does, step by step.
    private static final int PUT_NUMBER = 0;
    private static final int PUT_WORD = 1;
    private static final int ADD = 2;
    private static final int SUBTRACT = 3;
    private static final int MULTIPLY = 4;
    private static final int DIVIDE = 5;
    private static final int REMAIN = 6;
    private static final int LESS = 7;
    private static final int MORE = 8;
    private static final int SAME = 9;
    private static final int TURN_ROUND = 10;
    private static final int LEAVE_IF_NOT = 11;
    private static final int LEAVE_IF_SO = 12;
    private static final long MOST_SUM = 1000000000L;

    private static final int[] LEAST_TERMS = {0, 0, 0, 5};
    private static final int[] MOST_TERMS = {999, 10, 9, 31};
    private static final int[] REFUSALS = {BAD_NUMBER, NOT_THERE, NOT_NOW, NO_ROOM, BAD_TEXT};

    private final State now = new State();
    private final State[] images = {new State(), new State()};
    private final History history = new History();
    private final History historyBefore = new History();
    private final Table tableBefore = new Table();
    private final Table paper = new Table();
    private final Reader reader = new Reader();
    private final Sums sums = new Sums();
    private final Worth worth = new Worth();
    private final Worth otherWorth = new Worth();
    private final Four four = new Four();
    private final Fours fours = new Fours();
    private final CribSum cribSum = new CribSum();
    private final Ending ending = new Ending();
    private final int[] refused = new int[REFUSALS.length];
    private final int[] pegsDrawn = {NONE, NONE};
    private int latestStatus;
    private int latestJokers;
    private int latestStop = NONE;

    public CribbageRoom() {
    }

    // ---- What stands ----

    public int card(int card, int what) {
        if (!isCard(card)) {
            return NONE;
        }
        switch (what) {
            case 0:
                worth.fit(now, now.inForce, now.table);
                return worth.valueOf(card);
            case 1:
                worth.fit(now, now.inForce, now.table);
                return has(worth.barred, card) ? 1 : 0;
            case 2:
                return now.table.placeOf(card);
            case 3:
                return has(now.table.gone, card) ? 1 : 0;
            case 4:
                return has(now.held, card) ? 1 : 0;
            default:
                return NONE;
        }
    }

    public int hand(int player, int what) {
        if (!isPlayer(player) || what < 0 || what > 8) {
            return NONE;
        }
        Table table = now.table;
        long cards = table.hands[player];
        if (what == 0) {
            return Long.bitCount(cards);
        }
        if (what == 7) {
            return table.pegs[player];
        }
        if (what == 8) {
            return Long.bitCount(cards & ~table.gone);
        }
        return cardAt(cards, what - 1);
    }

    public int count(int what) {
        Table table = now.table;
        switch (what) {
            case 0: return table.phase;
            case 1: return table.dealer;
            case 2: return table.starter;
            case 3: return Long.bitCount(table.crib);
            case 4: return table.total;
            case 5: return table.lineLength;
            case 6: return table.turn;
            case 7: return table.last;
            case 8: return Long.bitCount(now.held);
            case 9: return now.seenCount;
            case 10: return now.lawCount;
            case 11: return history.size;
            case 12: return reader.length;
            case 13: case 14: case 15: case 16: case 17: return refused[what - 13];
            case 18: return now.inForce;
            case 19: case 20: case 21: case 22: return now.term(what - 19);
            default: return NONE;
        }
    }

    public int status() {
        return latestStatus;
    }

    public int terms(int what, int value) {
        if (what < 0 || what >= TERMS || value < LEAST_TERMS[what] || value > MOST_TERMS[what]) {
            return refuse(BAD_NUMBER);
        }
        int was = now.term(what);
        now.setTerm(what, value);
        history.clear();
        return grant(was);
    }

    // ---- The tape and what is read from it ----

    public int feed(int a, int b, int c, int d, int e) {
        if (reader.length + 20 > TAPE) {
            return NONE;
        }
        reader.append(a);
        reader.append(b);
        reader.append(c);
        reader.append(d);
        reader.append(e);
        return reader.length;
    }

    public int end(int n) {
        if (n < 0 || n > reader.length) {
            return NONE;
        }
        reader.length = n;
        return n;
    }

    public int row() {
        if (reader.length == 0) {
            return refuse(BAD_TEXT);
        }
        long held = 0;
        int bad = 0;
        for (int i = 0; i < reader.length && i < TAPE; i++) {
            int card = reader.tape[i];
            if (isCard(card) && !has(held, card) && Long.bitCount(held) < HELD) {
                held |= bit(card);
            } else {
                bad++;
            }
        }
        now.held = held;
        latestJokers = bad;
        reader.length = 0;
        return grant(Long.bitCount(held));
    }

    public int jokers() {
        return latestJokers;
    }

    public int law() {
        if (now.lawCount >= LAWS) {
            reader.length = 0;
            return refuse(NO_ROOM);
        }
        if (!reader.readText(true)) {
            return refuse(BAD_TEXT);
        }
        now.laws[now.lawCount] = new Text(reader.draft);
        now.lawCount++;
        return grant(now.lawCount - 1);
    }

    public int orders() {
        latestStop = NONE;
        if (!reader.readText(false)) {
            return refuse(BAD_TEXT);
        }
        tableBefore.copyFrom(now.table);
        historyBefore.copyFrom(history);
        sums.tell(OF_DONE, 0);
        sums.tell(OF_LATEST, NONE);
        for (int clause = 0; clause < reader.draft.clauseCount; clause++) {
            if (!runClause(reader.draft, clause)) {
                latestStop = clause;
                now.table.copyFrom(tableBefore);
                history.copyFrom(historyBefore);
                return refuse(NOT_NOW);
            }
        }
        return grant(sums.told(OF_DONE));
    }

    public int fault() {
        return reader.fault;
    }

    public int stopped() {
        return latestStop;
    }

    public int force(int law) {
        if (!isLaw(law)) {
            return refuse(NOT_THERE);
        }
        int was = now.inForce;
        now.inForce = law;
        return grant(was);
    }

    // ---- The table ----

    public int deal(int seed) {
        return tell(makeDeal(seed));
    }

    public int lay(int card, int player) {
        worth.fit(now, now.inForce, now.table);
        return tell(makeLay(card, player));
    }

    public int play(int card, int player) {
        worth.fit(now, now.inForce, now.table);
        return tell(makePlay(card, player));
    }

    public int show() {
        worth.fit(now, now.inForce, now.table);
        return tell(makeShow());
    }

    public int undo() {
        if (history.size == 0) {
            return refuse(NOT_NOW);
        }
        return grant(history.pop(now.table));
    }

    // ---- On paper ----

    public int hold(int card) {
        if (!isCard(card)) {
            return refuse(BAD_NUMBER);
        }
        if (has(now.held, card)) {
            return refuse(NOT_NOW);
        }
        if (Long.bitCount(now.held) >= HELD) {
            return refuse(NO_ROOM);
        }
        now.held |= bit(card);
        return grant(Long.bitCount(now.held));
    }

    public int drop() {
        int were = Long.bitCount(now.held);
        now.held = 0;
        return were;
    }

    public int counted(int starter, int crib, int what) {
        if (!canCount(starter) || crib < 0 || crib > 1 || what < 0 || what > 5) {
            return NONE;
        }
        worth.fit(now, now.inForce, now.table);
        four.take(now.held, crib == 1 ? IN_CRIB : IN_HAND, worth);
        return four.part(starter, what);
    }

    public int kept(int what) {
        if (Long.bitCount(now.held) != HELD || what < 0 || what > 2) {
            return NONE;
        }
        countFours();
        int best = fours.dearest();
        if (what == 0) {
            return fours.together(best);
        }
        return what == 1 ? fours.lowerAway(best) : fours.higherAway(best);
    }

    public long cribOf(int one, int other) {
        if (!isCard(one) || !isCard(other) || one == other) {
            return NONE;
        }
        worth.fit(now, now.inForce, now.table);
        return cribSum.of(one, other, ALL_CARDS & ~now.held & ~bit(one) & ~bit(other), worth);
    }

    public int byStarters(int n) {
        if (n < 0 || n > 999 || Long.bitCount(now.held) != 4) {
            return NONE;
        }
        takeHeld();
        int many = 0;
        for (int starter = 0; starter < CARDS; starter++) {
            if (!has(now.held, starter) && four.part(starter, 0) >= n) {
                many++;
            }
        }
        return many;
    }

    public int bestStarter(int what) {
        if (what < 0 || what > 1 || Long.bitCount(now.held) != 4) {
            return NONE;
        }
        takeHeld();
        int best = NONE;
        int most = NONE;
        for (int starter = 0; starter < CARDS; starter++) {
            if (!has(now.held, starter) && four.part(starter, 0) > most) {
                best = starter;
                most = four.part(starter, 0);
            }
        }
        return what == 0 ? best : most;
    }

    public int toEnd(int what) {
        if (what < 0 || what > 1 || now.table.turn == NONE) {
            return NO_END;
        }
        worth.fit(now, now.inForce, now.table);
        if (now.table.playable(now.table.turn, worth) == 0) {
            return NO_END;
        }
        int most = ending.most(now.table, worth);
        return what == 0 ? most : ending.card;
    }

    public int seen(int starter, int n) {
        if (!isCard(starter) || n < 0 || n > 999) {
            return refuse(BAD_NUMBER);
        }
        if (now.seenCount >= SEEN) {
            return refuse(NO_ROOM);
        }
        now.seenStarters[now.seenCount] = starter;
        now.seenCounts[now.seenCount] = n;
        now.seenCount++;
        return grant(now.seenCount);
    }

    public int forget() {
        int were = now.seenCount;
        now.seenCount = 0;
        return were;
    }

    public int canBe() {
        if (Long.bitCount(now.held) != HELD) {
            return NONE;
        }
        countFours();
        return fours.likely(now);
    }

    public int ask(int what) {
        if (what < 0 || what > 1 || Long.bitCount(now.held) != HELD) {
            return NONE;
        }
        countFours();
        int likely = fours.likely(now);
        if (likely == 0) {
            return NONE;
        }
        int starter = fours.sharpest(likely);
        return what == 0 ? starter : fours.mostAlike(likely, starter);
    }

    public long few(int k, int n) {
        if (k < 1 || k > 20 || n < 0 || n > 99) {
            return NONE;
        }
        int misdeals = now.term(1);
        long[] parts = new long[20];
        parts[0] = 1000000000000L;
        for (int i = 0; i < n; i++) {
            for (int j = k - 1; j >= 0; j--) {
                long come = j == 0 ? 0 : parts[j - 1] * misdeals / 10;
                parts[j] = parts[j] * (10 - misdeals) / 10 + come;
            }
        }
        long all = 0;
        for (int j = 0; j < k; j++) {
            all += parts[j];
        }
        return all;
    }

    public int compare(int law, int starter) {
        if (!isLaw(law) || !canCount(starter)) {
            return NONE;
        }
        otherWorth.fit(now, law, now.table);
        four.take(now.held, IN_HAND, otherWorth);
        return four.part(starter, 0);
    }

    // ---- Rubbers and images ----

    public int rubbers(int seed, int n) {
        if (seed < 0 || seed > SEEDS || n < 1 || n > 20) {
            return refuse(BAD_NUMBER);
        }
        paper.copyFrom(now.table);
        int pegsBefore = paper.pegs[0] + paper.pegs[1];
        int s = seed;
        for (int i = 0; i < n && paper.number < LAST_DEAL; i++) {
            s = paper.dealOut(s);
            worth.fit(now, now.inForce, paper);
            playRubber();
        }
        pegsDrawn[0] = paper.pegs[0];
        pegsDrawn[1] = paper.pegs[1];
        return grant(paper.pegs[0] + paper.pegs[1] - pegsBefore);
    }

    public int drawn(int player) {
        return isPlayer(player) ? pegsDrawn[player] : NONE;
    }

    public int image(int k) {
        if (k < 0 || k >= images.length) {
            return refuse(BAD_NUMBER);
        }
        images[k].copyFrom(now);
        images[k].kept = true;
        return grant(0);
    }

    public int back(int k) {
        if (k < 0 || k >= images.length) {
            return refuse(BAD_NUMBER);
        }
        if (!images[k].kept) {
            return refuse(NOT_THERE);
        }
        now.copyFrom(images[k]);
        history.clear();
        return grant(0);
    }

    // ---- What the calls share ----

    private int refuse(int code) {
        latestStatus = code;
        for (int i = 0; i < REFUSALS.length; i++) {
            if (REFUSALS[i] == code) {
                refused[i]++;
            }
        }
        return code;
    }

    private int grant(int answer) {
        latestStatus = 0;
        return answer;
    }

    private int tell(int answer) {
        return answer < 0 ? refuse(answer) : grant(answer);
    }

    private boolean isLaw(int law) {
        return law >= NONE && law < now.lawCount;
    }

    private boolean canCount(int starter) {
        return Long.bitCount(now.held) == 4 && isCard(starter) && !has(now.held, starter);
    }

    private void takeHeld() {
        worth.fit(now, now.inForce, now.table);
        four.take(now.held, IN_HAND, worth);
    }

    private void countFours() {
        worth.fit(now, now.inForce, now.table);
        fours.countAll(now.held, four, worth);
    }

    private int makeDeal(int seed) {
        if (seed < 0 || seed > SEEDS) {
            return BAD_NUMBER;
        }
        Table table = now.table;
        boolean between = table.phase == PHASE_NOTHING || table.phase == PHASE_SHOWN;
        if (!between || table.number >= LAST_DEAL) {
            return NOT_NOW;
        }
        history.push(table, A_DEAL);
        table.dealOut(seed);
        return table.starter;
    }

    private int makeLay(int card, int player) {
        if (!isCard(card) || !isPlayer(player)) {
            return BAD_NUMBER;
        }
        Table table = now.table;
        if (!table.canLay(card, player)) {
            return NOT_NOW;
        }
        history.push(table, A_LAY);
        table.layAway(card, player, worth);
        return Long.bitCount(table.crib);
    }

    private int makePlay(int card, int player) {
        if (!isCard(card) || !isPlayer(player)) {
            return BAD_NUMBER;
        }
        Table table = now.table;
        if (table.turn != player || !has(table.playable(player, worth), card)) {
            return NOT_NOW;
        }
        history.push(table, A_PLAY);
        return table.putDown(card, worth);
    }

    private int makeShow() {
        Table table = now.table;
        if (table.phase != PHASE_PLAYING || table.turn != NONE) {
            return NOT_NOW;
        }
        history.push(table, A_SHOW);
        return showAll(table);
    }

    private int showAll(Table table) {
        int pone = 1 - table.dealer;
        four.take(table.handOf(pone), IN_HAND, worth);
        int poneHas = four.part(table.starter, 0);
        four.take(table.handOf(table.dealer), IN_HAND, worth);
        int dealerHas = four.part(table.starter, 0);
        four.take(table.crib, IN_CRIB, worth);
        dealerHas += four.part(table.starter, 0);
        table.addPegs(pone, poneHas);
        table.addPegs(table.dealer, dealerHas);
        table.phase = PHASE_SHOWN;
        return poneHas + dealerHas;
    }

    private void playRubber() {
        int pone = 1 - paper.dealer;
        for (int i = 0; i < 4; i++) {
            int player = i < 2 ? pone : paper.dealer;
            paper.layAway(highest(paper.handOf(player)), player, worth);
        }
        for (int i = 0; i < 8 && paper.turn != NONE; i++) {
            paper.putDown(lowest(paper.playable(paper.turn, worth)), worth);
        }
        showAll(paper);
    }

    private boolean runClause(Text text, int clause) {
        int kind = text.at(clause, Text.KIND);
        int times = text.at(clause, Text.TIMES);
        for (int i = 0; i < times; i++) {
            tellTable();
            worth.fit(now, now.inForce, now.table);
            if (!sums.isSo(text, clause)) {
                continue;
            }
            if (!sums.workBoth(text, clause)) {
                return false;
            }
            int answer;
            switch (kind) {
                case DEAL: answer = makeDeal(sums.first); break;
                case LAY: answer = makeLay(sums.first, sums.second); break;
                case PLAY: answer = makePlay(sums.first, sums.second); break;
                default: answer = makeShow(); break;
            }
            if (answer < 0) {
                return false;
            }
            sums.tell(OF_DONE, sums.told(OF_DONE) + 1);
            if (kind == PLAY) {
                sums.tell(OF_LATEST, answer);
            }
        }
        return true;
    }

    private void tellTable() {
        Table table = now.table;
        sums.tell(OF_PHASE, table.phase);
        sums.tell(OF_COUNT, table.total);
        sums.tell(OF_TURN, table.turn);
        for (int player = 0; player < PLAYERS; player++) {
            sums.tell(OF_PEGS + player, table.pegs[player]);
            for (int k = 0; k < 6; k++) {
                sums.tell(OF_CARD + 6 * player + k, cardAt(table.hands[player], k));
            }
        }
    }

    // ---- Cards and sets of cards ----

    private static boolean isCard(int card) {
        return card >= 0 && card < CARDS;
    }

    private static boolean isPlayer(int player) {
        return player == 0 || player == 1;
    }

    private static long bit(int card) {
        return isCard(card) ? 1L << card : 0;
    }

    private static boolean has(long cards, int card) {
        return isCard(card) && (cards >> card & 1) == 1;
    }

    private static int lowest(long cards) {
        return cards == 0 ? NONE : Long.bitCount((cards & -cards) - 1);
    }

    private static int highest(long cards) {
        return cardAt(cards, Long.bitCount(cards) - 1);
    }

    private static int cardAt(long cards, int place) {
        if (place < 0 || place >= CARDS) {
            return NONE;
        }
        long left = cards;
        for (int i = 0; i < place; i++) {
            left &= left - 1;
        }
        return lowest(left);
    }

    private static int within(int number, int least, int most) {
        return Math.max(least, Math.min(most, number));
    }

    /** Two hands, the crib, and the play: all that deal, lay, play and show change. */
    private static final class Table {
        final long[] hands = new long[PLAYERS];
        final int[] pegs = new int[PLAYERS];
        final int[] line = new int[8];
        long crib;
        long gone;
        int phase = PHASE_NOTHING;
        int dealer = 1;
        int starter = NONE;
        int lineLength;
        int total;
        int turn = NONE;
        int last = NONE;
        int number;

        void copyFrom(Table other) {
            System.arraycopy(other.hands, 0, hands, 0, PLAYERS);
            System.arraycopy(other.pegs, 0, pegs, 0, PLAYERS);
            System.arraycopy(other.line, 0, line, 0, line.length);
            crib = other.crib;
            gone = other.gone;
            phase = other.phase;
            dealer = other.dealer;
            starter = other.starter;
            lineLength = other.lineLength;
            total = other.total;
            turn = other.turn;
            last = other.last;
            number = other.number;
        }

        long handOf(int player) {
            return isPlayer(player) ? hands[player] : 0;
        }

        int placeOf(int card) {
            if (has(hands[0], card)) {
                return 0;
            }
            if (has(hands[1], card)) {
                return 1;
            }
            if (has(crib, card)) {
                return 2;
            }
            return card == starter ? 3 : NONE;
        }

        void addPegs(int player, int more) {
            if (isPlayer(player)) {
                pegs[player] = Math.min(MOST_PEGS, pegs[player] + more);
            }
        }

        /** Deals from s on; what s is behind the last draw. */
        int dealOut(int seed) {
            dealer = 1 - dealer;
            hands[0] = 0;
            hands[1] = 0;
            crib = 0;
            long left = ALL_CARDS;
            int s = seed;
            for (int i = 0; i < 13; i++) {
                s = (s * 1103 + 12345) % 1000003;
                int card = cardAt(left, s % (CARDS - i));
                left &= ~bit(card);
                int to = i % 2 == 0 ? 1 - dealer : dealer;
                if (i == 12) {
                    starter = card;
                } else if (isPlayer(to)) {
                    hands[to] |= bit(card);
                }
            }
            clearPlay();
            turn = NONE;
            phase = PHASE_LAYING;
            number++;
            return s;
        }

        private void clearPlay() {
            gone = 0;
            total = 0;
            lineLength = 0;
            last = NONE;
        }

        boolean canLay(int card, int player) {
            return phase == PHASE_LAYING && isPlayer(player) && has(hands[player], card)
                && Long.bitCount(hands[player]) > 4;
        }

        void layAway(int card, int player, Worth worth) {
            if (!isPlayer(player)) {
                return;
            }
            hands[player] &= ~bit(card);
            crib |= bit(card);
            if (Long.bitCount(hands[0]) == 4 && Long.bitCount(hands[1]) == 4) {
                clearPlay();
                phase = PHASE_PLAYING;
                if (starter / 4 == JACK) {
                    addPegs(dealer, 2);
                }
                turn = firstWhoCan(1 - dealer, worth);
            }
        }

        long playable(int player, Worth worth) {
            long can = 0;
            long left = handOf(player) & ~gone & ~worth.barred;
            for (int i = 0; i < 6 && left != 0; i++) {
                int card = lowest(left);
                left &= left - 1;
                if (total + worth.valueOf(card) <= MOST_COUNT) {
                    can |= bit(card);
                }
            }
            return can;
        }

        private int firstWhoCan(int player, Worth worth) {
            if (playable(player, worth) != 0) {
                return player;
            }
            return playable(1 - player, worth) != 0 ? 1 - player : NONE;
        }

        /** Whose turn it is plays a card that can be played: the pegs for it. */
        int putDown(int card, Worth worth) {
            int player = turn;
            gone |= bit(card);
            if (lineLength < line.length) {
                line[lineLength] = card;
                lineLength++;
            }
            total += worth.valueOf(card);
            last = player;
            int gain = linePegs(worth);
            turn = firstWhoCan(1 - player, worth);
            if (turn == NONE) {
                gain += total == MOST_COUNT ? 0 : 1;
                total = 0;
                lineLength = 0;
                turn = firstWhoCan(1 - player, worth);
            }
            addPegs(player, gain);
            return gain;
        }

        private int linePegs(Worth worth) {
            int gain = total == worth.target ? worth.countOf(FIFTEEN, IN_PLAY, lineLength) : 0;
            if (total == MOST_COUNT) {
                gain += 2;
            }
            int alike = alikeAtEnd();
            if (alike >= 2) {
                gain += worth.countOf(PAIR, IN_PLAY, line[lineLength - 1] / 4) * (alike * (alike - 1) / 2);
            }
            int run = runAtEnd();
            if (run >= 3) {
                gain += worth.countOf(RUN, IN_PLAY, run);
            }
            return gain;
        }

        private int alikeAtEnd() {
            int alike = 0;
            for (int i = lineLength - 1; i >= 0 && line[i] / 4 == line[lineLength - 1] / 4; i--) {
                alike++;
            }
            return alike;
        }

        private int runAtEnd() {
            int longest = 0;
            int ranks = 0;
            for (int k = 1; k <= lineLength; k++) {
                int rank = 1 << (line[lineLength - k] / 4);
                if ((ranks & rank) != 0) {
                    return longest;
                }
                ranks |= rank;
                int lowestRank = ranks & -ranks;
                // k ranks one behind the other are k bits without a gap.
                if (k >= 3 && ranks == lowestRank * ((1 << k) - 1)) {
                    longest = k;
                }
            }
            return longest;
        }
    }

    /** The tables ahead of the latest sixteen things done, the oldest given up first. */
    private static final class History {
        static final int ROOM = 16;
        final Table[] tables = new Table[ROOM];
        final int[] kinds = new int[ROOM];
        int first;
        int size;

        History() {
            for (int i = 0; i < ROOM; i++) {
                tables[i] = new Table();
            }
        }

        void clear() {
            size = 0;
        }

        void push(Table table, int kind) {
            if (size == ROOM) {
                first = (first + 1) % ROOM;
                size--;
            }
            int place = (first + size) % ROOM;
            tables[place].copyFrom(table);
            kinds[place] = kind;
            size++;
        }

        int pop(Table into) {
            if (size == 0) {
                return NONE;
            }
            size--;
            int place = (first + size) % ROOM;
            into.copyFrom(tables[place]);
            return kinds[place];
        }

        void copyFrom(History other) {
            first = other.first;
            size = other.size;
            for (int i = 0; i < size; i++) {
                int place = (first + i) % ROOM;
                tables[place].copyFrom(other.tables[place]);
                kinds[place] = other.kinds[place];
            }
        }
    }

    /** All that an image keeps. */
    private static final class State {
        final Table table = new Table();
        final int[] seenStarters = new int[SEEN];
        final int[] seenCounts = new int[SEEN];
        final Text[] laws = new Text[LAWS];
        // TERMS 1 .. 3; TERM 0 is the table's, as undo() takes it back.
        final int[] otherTerms = {1, 0, 15};
        long held;
        int seenCount;
        int lawCount;
        int inForce = NONE;
        boolean kept;

        int term(int what) {
            return what >= 1 && what < TERMS ? otherTerms[what - 1] : table.number;
        }

        void setTerm(int what, int value) {
            if (what >= 1 && what < TERMS) {
                otherTerms[what - 1] = value;
            } else {
                table.number = value;
            }
        }

        Text lawAt(int number) {
            return number >= 0 && number < lawCount && number < LAWS ? laws[number] : null;
        }

        void copyFrom(State other) {
            table.copyFrom(other.table);
            System.arraycopy(other.seenStarters, 0, seenStarters, 0, SEEN);
            System.arraycopy(other.seenCounts, 0, seenCounts, 0, SEEN);
            System.arraycopy(other.otherTerms, 0, otherTerms, 0, otherTerms.length);
            for (int i = 0; i < LAWS; i++) {
                laws[i] = other.laws[i];
            }
            held = other.held;
            seenCount = other.seenCount;
            lawCount = other.lawCount;
            inForce = other.inForce;
        }
    }

    /** A text that was read: steps for Sums in twos (what, of what), and where each clause has its own. */
    private static final class Text {
        static final int KIND = 0;
        static final int TIMES = 1;
        static final int FIRST = 2;
        static final int SECOND = 3;
        static final int TEST = 4;
        static final int END = 5;
        static final int COLUMNS = 6;
        final int[] code;
        final int[] clauses;
        int length;
        int clauseCount;
        // Whether a word of it asks for what a law's Worth is not told anew each time: the deal, the mood.
        boolean changing;

        Text() {
            // A token makes one step at most.
            code = new int[2 * TAPE];
            clauses = new int[CLAUSES * COLUMNS];
        }

        Text(Text draft) {
            code = Arrays.copyOf(draft.code, draft.length);
            clauses = Arrays.copyOf(draft.clauses, draft.clauseCount * COLUMNS);
            length = draft.length;
            clauseCount = draft.clauseCount;
            changing = draft.changing;
        }

        int at(int clause, int column) {
            int place = clause * COLUMNS + column;
            return place >= 0 && place < clauses.length ? clauses[place] : 0;
        }

        void mark(int column, int value) {
            int place = clauseCount * COLUMNS + column;
            if (place >= 0 && place < clauses.length) {
                clauses[place] = value;
            }
        }

        /** Where the step stands that was put. */
        int put(int step, int of) {
            int place = length;
            if (length + 1 < code.length) {
                code[length] = step;
                code[length + 1] = of;
                length += 2;
            }
            return place;
        }

        void leaveToHere(int place) {
            if (place >= 0 && place + 1 < code.length) {
                code[place + 1] = length;
            }
        }
    }

    /** The tape, and the reader of both languages: it stands at a token and fails at the first that can't go on. */
    private static final class Reader {
        static final int THE_END = 0;
        static final int WORD = 1;
        static final int NUMBER = 2;
        static final int SIGN = 3;
        static final int MOST_NUMBER = 1000;
        static final int MOST_PARTS = 50;
        static final int MOST_BRACKETS = 8;
        static final int MOST_TIMES = 20;
        final int[] tape = new int[TAPE];
        final Text draft = new Text();
        int length;
        int fault = NONE;
        private boolean lawful;
        private int parts;
        private int place;
        private int next;
        private int token;
        private int value;

        void append(int fourBytes) {
            for (int shift = 24; shift >= 0 && length < TAPE; shift -= 8) {
                tape[length] = fourBytes >> shift & 255;
                length++;
            }
        }

        /** Reads the tape into the draft and empties it. */
        boolean readText(boolean asLaw) {
            lawful = asLaw;
            parts = 0;
            next = 0;
            draft.length = 0;
            draft.clauseCount = 0;
            draft.changing = false;
            advance();
            boolean well = readClause();
            for (int i = 0; i < TAPE && well && skipSign(';'); i++) {
                well = readClause();
            }
            well = well && token == THE_END;
            fault = well ? NONE : place;
            length = 0;
            return well;
        }

        private boolean readClause() {
            if (draft.clauseCount >= CLAUSES || token != WORD) {
                return false;
            }
            int kind = value;
            if (kind < (lawful ? VALUE : LAY) || kind > (lawful ? BARS : DEAL)) {
                return false;
            }
            draft.mark(Text.KIND, kind);
            draft.mark(Text.TIMES, 1);
            advance();
            draft.mark(Text.FIRST, draft.length);
            if (kind != BARS && kind != SHOW && !readSum(0)) {
                return false;
            }
            draft.mark(Text.SECOND, draft.length);
            if ((kind == LAY || kind == PLAY) && !(skipWord(BY) && readSum(0))) {
                return false;
            }
            if (!lawful && skipWord(TIMES) && !readTimes()) {
                return false;
            }
            draft.mark(Text.TEST, draft.length);
            if (skipWord(IF) && !readTest(0)) {
                return false;
            }
            draft.mark(Text.END, draft.length);
            draft.clauseCount++;
            return true;
        }

        private boolean readTimes() {
            if (token != NUMBER || value < 1 || value > MOST_TIMES) {
                return false;
            }
            draft.mark(Text.TIMES, value);
            return advance();
        }

        private boolean readTest(int depth) {
            boolean well = readBoth(depth);
            for (int i = 0; i < TAPE && well && skipWord(OR); i++) {
                int leave = draft.put(LEAVE_IF_SO, 0);
                well = readBoth(depth);
                draft.leaveToHere(leave);
            }
            return well;
        }

        private boolean readBoth(int depth) {
            boolean well = readPlain(depth);
            for (int i = 0; i < TAPE && well && skipWord(AND); i++) {
                int leave = draft.put(LEAVE_IF_NOT, 0);
                well = readPlain(depth);
                draft.leaveToHere(leave);
            }
            return well;
        }

        private boolean readPlain(int depth) {
            boolean turned = false;
            for (int i = 0; i < TAPE && skipWord(NOT); i++) {
                turned = !turned;
            }
            boolean well;
            if (isSign('(')) {
                well = depth < MOST_BRACKETS && advance() && readTest(depth + 1) && skipSign(')');
            } else {
                well = readSum(depth);
                int step = isSign('<') ? LESS : isSign('>') ? MORE : SAME;
                well = well && (step != SAME || isSign('=')) && advance() && readSum(depth);
                draft.put(step, 0);
            }
            if (turned) {
                draft.put(TURN_ROUND, 0);
            }
            return well;
        }

        private boolean readSum(int depth) {
            boolean well = readTerm(depth);
            for (int i = 0; i < TAPE && well && (isSign('+') || isSign('-')); i++) {
                int step = isSign('+') ? ADD : SUBTRACT;
                advance();
                well = readTerm(depth);
                draft.put(step, 0);
            }
            return well;
        }

        private boolean readTerm(int depth) {
            boolean well = readPart(depth);
            for (int i = 0; i < TAPE && well && (isSign('*') || isSign('/') || isSign('%')); i++) {
                int step = isSign('*') ? MULTIPLY : isSign('/') ? DIVIDE : REMAIN;
                advance();
                well = readPart(depth);
                draft.put(step, 0);
            }
            return well;
        }

        private boolean readPart(int depth) {
            if (isSign('[')) {
                return depth < MOST_BRACKETS && advance() && readSum(depth + 1) && skipSign(']');
            }
            if (parts >= MOST_PARTS) {
                return false;
            }
            parts++;
            if (token == NUMBER && value <= MOST_NUMBER) {
                draft.put(PUT_NUMBER, value);
                return advance();
            }
            return token == WORD && (lawful ? readLawWord() : readOrdersWord());
        }

        private boolean readLawWord() {
            if (value < DEAL || value > MOOD) {
                return false;
            }
            draft.changing = draft.changing || value == DEAL || value == MOOD;
            draft.put(PUT_WORD, value - DEAL);
            return advance();
        }

        private boolean readOrdersWord() {
            if (value < PHASE || value > CARD) {
                return false;
            }
            int word = value - PHASE;
            if (value == PEGS || value == CARD) {
                int from = value == PEGS ? OF_PEGS : OF_CARD;
                int many = value == PEGS ? PLAYERS : PLAYERS * 6;
                advance();
                if (token != NUMBER || value >= many) {
                    return false;
                }
                word = from + value;
            }
            draft.put(PUT_WORD, word);
            return advance();
        }

        private boolean isSign(char sign) {
            return token == SIGN && value == sign;
        }

        private boolean skipSign(char sign) {
            return isSign(sign) && advance();
        }

        private boolean skipWord(int word) {
            return token == WORD && value == word && advance();
        }

        /** Goes on to the next token; always true, so that it may end a chain of tests. */
        private boolean advance() {
            place = next;
            while (place < length && tape[place] == ' ') {
                place++;
            }
            if (place >= length) {
                next = length;
                place = length;
                token = THE_END;
                return true;
            }
            next = place + 1;
            if (isLetter(tape[place])) {
                while (next < length && isLetter(tape[next])) {
                    next++;
                }
                token = WORD;
                value = wordAt();
            } else if (isDigit(tape[place])) {
                while (next < length && isDigit(tape[next])) {
                    next++;
                }
                token = NUMBER;
                value = numberAt();
            } else {
                token = SIGN;
                value = tape[place];
            }
            return true;
        }

        private static boolean isLetter(int sign) {
            return sign >= 'a' && sign <= 'z';
        }

        private static boolean isDigit(int sign) {
            return sign >= '0' && sign <= '9';
        }

        /** The number's value, or one too many where it is beyond what any number may be. */
        private int numberAt() {
            int number = 0;
            for (int i = place; i < next && i < TAPE; i++) {
                number = Math.min(MOST_NUMBER + 1, number * 10 + tape[i] - '0');
            }
            return number;
        }

        private int wordAt() {
            int size = next - place;
            int word = 0;
            int same = 0;
            for (int i = 0; i < WORDS.length(); i++) {
                char sign = WORDS.charAt(i);
                if (sign == ' ') {
                    if (same == size) {
                        return word;
                    }
                    word++;
                    same = 0;
                } else {
                    same = same >= 0 && same < size && tape[place + same] == sign ? same + 1 : NONE;
                }
            }
            return NONE;
        }
    }

    /** Works out sums and tests that were read, with what their words stand for. */
    private static final class Sums {
        // Each of eight brackets leaves two numbers waiting, a comparison one more.
        static final int ROOM = 32;
        final int[] words = new int[WORDS_TOLD];
        final long[] stack = new long[ROOM];
        int first;
        int second;
        private int height;
        private int answer;

        void tell(int word, int value) {
            if (word >= 0 && word < words.length) {
                words[word] = value;
            }
        }

        int told(int word) {
            return word >= 0 && word < words.length ? words[word] : NONE;
        }

        /** Whether a clause has no test, or one that is so; a broken one is not. */
        boolean isSo(Text text, int clause) {
            int from = text.at(clause, Text.TEST);
            int to = text.at(clause, Text.END);
            return from == to || work(text, from, to) && answer != 0;
        }

        /** Works out a clause's sums into first and second, 0 for one that it has not; false, if one is broken. */
        boolean workBoth(Text text, int clause) {
            boolean well = work(text, text.at(clause, Text.FIRST), text.at(clause, Text.SECOND));
            first = answer;
            well = well && work(text, text.at(clause, Text.SECOND), text.at(clause, Text.TEST));
            second = answer;
            return well;
        }

        private boolean work(Text text, int from, int to) {
            height = 0;
            int place = from;
            for (int i = 0; i < TAPE && place >= 0 && place < to && place + 1 < text.code.length; i++) {
                int step = text.code[place];
                int of = text.code[place + 1];
                place += 2;
                if (step == PUT_NUMBER) {
                    push(of);
                } else if (step == PUT_WORD) {
                    push(told(of));
                } else if (step == TURN_ROUND) {
                    push(1 - pop());
                } else if (step == LEAVE_IF_NOT || step == LEAVE_IF_SO) {
                    long left = pop();
                    if ((left != 0) == (step == LEAVE_IF_SO)) {
                        push(left);
                        place = of;
                    }
                } else if (!join(step)) {
                    return false;
                }
            }
            answer = (int) pop();
            return true;
        }

        private void push(long number) {
            if (height < ROOM) {
                stack[height] = number;
                height++;
            }
        }

        private long pop() {
            if (height == 0) {
                return 0;
            }
            height--;
            return stack[height];
        }

        /** Puts what two numbers make in their place; false, if that is broken. */
        private boolean join(int step) {
            if (height < 2) {
                return false;
            }
            long left = stack[height - 2];
            long right = stack[height - 1];
            if (right == 0 && (step == DIVIDE || step == REMAIN)) {
                return false;
            }
            long number;
            switch (step) {
                case ADD: number = left + right; break;
                case SUBTRACT: number = left - right; break;
                case MULTIPLY: number = left * right; break;
                case DIVIDE: number = right == 0 ? 0 : left / right; break;
                case REMAIN: number = right == 0 ? 0 : left % right; break;
                case LESS: number = left < right ? 1 : 0; break;
                case MORE: number = left > right ? 1 : 0; break;
                default: number = left == right ? 1 : 0; break;
            }
            height--;
            stack[height - 1] = number;
            return number <= MOST_SUM && number >= -MOST_SUM;
        }
    }

    /** What cards are worth and what counts how much by one law, worked out once for a deal and a mood. */
    private static final class Worth {
        // Of each kind of count the first item and the one behind the last: sizes, ranks, suits, or suits with sizes.
        static final int[] FIRST_ITEMS = {0, 1, 0, 3, 0, 0};
        static final int[] ITEM_ENDS = {0, 9, 13, 9, 8, 4};
        static final int ITEMS = 13;
        static final int KINDS = 6;
        static final int MOST_COUNTED = 99;
        final Sums sums = new Sums();
        final int[] values = new int[CARDS];
        final int[][] counts = new int[KINDS][PLACES * ITEMS];
        long barred;
        int target;
        private boolean ready;
        private Text law;
        private int deal;
        private int mood;

        int valueOf(int card) {
            return isCard(card) ? values[card] : 1;
        }

        int countOf(int kind, int place, int item) {
            if (kind < 0 || kind >= KINDS || place < 0 || place >= PLACES || item < 0 || item >= ITEMS) {
                return 0;
            }
            return counts[kind][place * ITEMS + item];
        }

        static int flushItem(int suit, int size) {
            return 2 * suit + size - 4;
        }

        void fit(State state, int lawNumber, Table table) {
            Text text = state.lawAt(lawNumber);
            int dealNow = table.number;
            int moodNow = state.term(2);
            target = state.term(3);
            boolean sameTold = text == null || !text.changing || deal == dealNow && mood == moodNow;
            if (ready && law == text && sameTold) {
                return;
            }
            ready = true;
            law = text;
            deal = dealNow;
            mood = moodNow;
            setStandard();
            sums.tell(OF_DEAL, deal);
            sums.tell(OF_MOOD, mood);
            for (int clause = 0; text != null && clause < text.clauseCount; clause++) {
                int kind = text.at(clause, Text.KIND);
                if (kind == VALUE || kind == BARS) {
                    askOfCards(text, clause, kind);
                } else {
                    askOfCounts(text, clause, kind);
                }
            }
        }

        private void setStandard() {
            barred = 0;
            for (int card = 0; card < CARDS; card++) {
                values[card] = Math.min(10, card / 4 + 1);
            }
            for (int place = 0; place < PLACES; place++) {
                for (int item = 0; item < ITEMS; item++) {
                    int cell = place * ITEMS + item;
                    counts[FIFTEEN][cell] = 2;
                    counts[PAIR][cell] = 2;
                    counts[RUN][cell] = item;
                    counts[FLUSH][cell] = 4 + item % 2;
                    counts[NOB][cell] = 1;
                }
            }
        }

        private void askOfCards(Text text, int clause, int kind) {
            sums.tell(OF_SIZE, NONE);
            sums.tell(OF_CRIB, NONE);
            for (int card = 0; card < CARDS; card++) {
                sums.tell(OF_RANK, card / 4);
                sums.tell(OF_SUIT, card % 4);
                if (!holds(text, clause)) {
                    continue;
                }
                if (kind == BARS) {
                    barred |= bit(card);
                } else {
                    values[card] = within(sums.first, 1, MOST_COUNT);
                }
            }
        }

        private void askOfCounts(Text text, int clause, int kind) {
            if (kind < 0 || kind >= KINDS) {
                return;
            }
            for (int place = 0; place < PLACES; place++) {
                sums.tell(OF_CRIB, place == IN_CRIB ? 1 : place == IN_HAND ? 0 : NONE);
                for (int item = FIRST_ITEMS[kind]; item < ITEM_ENDS[kind]; item++) {
                    tellItem(kind, item);
                    if (holds(text, clause)) {
                        counts[kind][place * ITEMS + item] = within(sums.first, 0, MOST_COUNTED);
                    }
                }
            }
        }

        private void tellItem(int kind, int item) {
            int suit = kind == NOB ? item : kind == FLUSH ? item / 2 : NONE;
            int size = kind == FLUSH ? 4 + item % 2 : kind == PAIR ? 2 : kind == NOB ? NONE : item;
            sums.tell(OF_RANK, kind == PAIR ? item : NONE);
            sums.tell(OF_SUIT, suit);
            sums.tell(OF_SIZE, size);
        }

        private boolean holds(Text text, int clause) {
            return sums.isSo(text, clause) && sums.workBoth(text, clause);
        }

        /** What the longest run counts among five cards, told how many there are of each rank. */
        int runsOf(int[] ranks, int place) {
            int size = 0;
            int ways = 1;
            for (int rank = 0; rank <= RANKS && rank <= ranks.length; rank++) {
                int many = rank < RANKS && rank < ranks.length ? ranks[rank] : 0;
                if (many > 0) {
                    size++;
                    ways *= many;
                } else if (size >= 3) {
                    // Five cards have no room for a second run of three.
                    return ways * countOf(RUN, place, size);
                } else {
                    size = 0;
                    ways = 1;
                }
            }
            return 0;
        }
    }

    /** Four cards, made ready so that each starter is counted quickly. */
    private static final class Four {
        final int[] cards = new int[4];
        final int[] ranks = new int[RANKS];
        final int[] pairsByRank = new int[RANKS];
        final int[] runsByRank = new int[RANKS];
        // What fifteens a starter of a value makes with some of the four.
        final int[] fifteensByValue = new int[MOST_COUNT + 1];
        private Worth worth;
        private int place;
        private int fifteens;
        private int suit;
        private long jacks;

        void take(long four, int where, Worth by) {
            worth = by;
            place = where;
            jacks = 0;
            for (int i = 0; i < 4; i++) {
                cards[i] = Math.max(0, cardAt(four, i));
            }
            suit = cards[0] % 4;
            for (int i = 0; i < 4; i++) {
                if (cards[i] % 4 != suit) {
                    suit = NONE;
                }
            }
            for (int i = 0; i < 4; i++) {
                if (cards[i] / 4 == JACK) {
                    jacks |= bit(cards[i]);
                }
            }
            takeFifteens();
            takeRanks();
        }

        private void takeFifteens() {
            fifteens = 0;
            Arrays.fill(fifteensByValue, 0);
            for (int set = 1; set < 16; set++) {
                int sum = 0;
                for (int i = 0; i < 4; i++) {
                    sum += (set >> i & 1) * worth.valueOf(cards[i]);
                }
                int size = Integer.bitCount(set);
                int missing = worth.target - sum;
                if (missing == 0 && size >= 2) {
                    fifteens += worth.countOf(FIFTEEN, place, size);
                } else if (missing > 0 && missing < fifteensByValue.length) {
                    fifteensByValue[missing] += worth.countOf(FIFTEEN, place, size + 1);
                }
            }
        }

        private void takeRanks() {
            Arrays.fill(ranks, 0);
            for (int i = 0; i < 4; i++) {
                ranks[cards[i] / 4]++;
            }
            int pairs = 0;
            for (int rank = 0; rank < RANKS; rank++) {
                pairs += ranks[rank] * (ranks[rank] - 1) / 2 * worth.countOf(PAIR, place, rank);
            }
            for (int rank = 0; rank < RANKS; rank++) {
                pairsByRank[rank] = pairs + ranks[rank] * worth.countOf(PAIR, place, rank);
                ranks[rank]++;
                runsByRank[rank] = worth.runsOf(ranks, place);
                ranks[rank]--;
            }
        }

        /** What counts with a starter: all, fifteens, pairs, runs, a flush, nobs. */
        int part(int starter, int what) {
            if (worth == null || !isCard(starter)) {
                return 0;
            }
            int rank = starter / 4;
            switch (what) {
                case 0:
                    return fifteensWith(starter) + pairsByRank[rank] + runsByRank[rank]
                        + flushWith(starter) + nobsWith(starter);
                case 1: return fifteensWith(starter);
                case 2: return pairsByRank[rank];
                case 3: return runsByRank[rank];
                case 4: return flushWith(starter);
                default: return nobsWith(starter);
            }
        }

        private int fifteensWith(int starter) {
            int value = worth.valueOf(starter);
            return fifteens + (value >= 0 && value < fifteensByValue.length ? fifteensByValue[value] : 0);
        }

        private int flushWith(int starter) {
            if (suit == NONE) {
                return 0;
            }
            if (starter % 4 == suit) {
                return worth.countOf(FLUSH, place, Worth.flushItem(suit, 5));
            }
            return place == IN_HAND ? worth.countOf(FLUSH, place, Worth.flushItem(suit, 4)) : 0;
        }

        private int nobsWith(int starter) {
            return has(jacks, 4 * JACK + starter % 4) ? worth.countOf(NOB, place, starter % 4) : 0;
        }
    }

    /** The fifteen fours of six cards, each counted with every starter that is not one of the six. */
    private static final class Fours {
        final int[][] counts = new int[FOURS][CARDS];
        final int[] lower = new int[FOURS];
        final int[] higher = new int[FOURS];
        private long six;

        void countAll(long held, Four four, Worth worth) {
            six = held;
            int number = 0;
            for (int i = 0; i < HELD; i++) {
                for (int j = i + 1; j < HELD && number < FOURS; j++) {
                    lower[number] = cardAt(six, i);
                    higher[number] = cardAt(six, j);
                    four.take(six & ~bit(lower[number]) & ~bit(higher[number]), IN_HAND, worth);
                    for (int starter = 0; starter < CARDS; starter++) {
                        counts[number][starter] = has(six, starter) ? NONE : four.part(starter, 0);
                    }
                    number++;
                }
            }
        }

        int lowerAway(int number) {
            return number >= 0 && number < FOURS ? lower[number] : NONE;
        }

        int higherAway(int number) {
            return number >= 0 && number < FOURS ? higher[number] : NONE;
        }

        int together(int number) {
            int sum = 0;
            for (int starter = 0; starter < CARDS && number >= 0 && number < FOURS; starter++) {
                sum += Math.max(0, counts[number][starter]);
            }
            return sum;
        }

        int dearest() {
            int best = 0;
            for (int number = 1; number < FOURS; number++) {
                if (together(number) > together(best)) {
                    best = number;
                }
            }
            return best;
        }

        /** The fours of which all that was seen is so, as bits. */
        int likely(State state) {
            int bits = 0;
            for (int number = 0; number < FOURS; number++) {
                boolean so = true;
                for (int i = 0; i < state.seenCount && i < SEEN; i++) {
                    int starter = state.seenStarters[i];
                    so = so && isCard(starter) && counts[number][starter] == state.seenCounts[i];
                }
                bits |= so ? 1 << number : 0;
            }
            return bits;
        }

        /** Of some fours how many count alike with a starter, at most. */
        int mostAlike(int bits, int starter) {
            int most = 0;
            for (int number = 0; number < FOURS && isCard(starter); number++) {
                int alike = 0;
                for (int other = number; other < FOURS && (bits >> number & 1) == 1; other++) {
                    if ((bits >> other & 1) == 1 && counts[other][starter] == counts[number][starter]) {
                        alike++;
                    }
                }
                most = Math.max(most, alike);
            }
            return most;
        }

        int sharpest(int bits) {
            int best = NONE;
            int fewest = FOURS + 1;
            for (int starter = 0; starter < CARDS; starter++) {
                int most = has(six, starter) ? fewest : mostAlike(bits, starter);
                if (most < fewest) {
                    fewest = most;
                    best = starter;
                }
            }
            return best;
        }
    }

    /** What a crib of two cards counts with all that can come to it, by how often each part comes. */
    private static final class CribSum {
        // By how many cards of those that can come, and by what they are worth together: in how many ways.
        final long[][] ways = new long[4][MOST_COUNT + 1];
        final int[] freeOfRank = new int[RANKS];
        final int[] freeOfSuit = new int[4];
        final int[] ranks = new int[RANKS];
        private Worth worth;
        private int one;
        private int other;
        private int free;

        long of(int first, int second, long cards, Worth by) {
            worth = by;
            one = first;
            other = second;
            free = Long.bitCount(cards);
            sortFree(cards);
            // Of each three that come, each may be the starter.
            return 3 * (fifteens() + pairs() + runs() + flushes()) + nobs(cards);
        }

        private void sortFree(long cards) {
            Arrays.fill(freeOfRank, 0);
            Arrays.fill(freeOfSuit, 0);
            for (int j = 0; j < 4; j++) {
                Arrays.fill(ways[j], 0);
            }
            ways[0][0] = 1;
            for (int card = 0; card < CARDS; card++) {
                if (has(cards, card)) {
                    freeOfRank[card / 4]++;
                    freeOfSuit[card % 4]++;
                    addWays(worth.valueOf(card));
                }
            }
        }

        private void addWays(int value) {
            for (int j = 3; j >= 1; j--) {
                for (int sum = MOST_COUNT; sum >= value && sum >= 1; sum--) {
                    ways[j][sum] += ways[j - 1][sum - Math.max(0, value)];
                }
            }
        }

        private static long choose(long n, int k) {
            long number = 1;
            for (int i = 0; i < k; i++) {
                number = number * (n - i) / (i + 1);
            }
            return number;
        }

        private long fifteens() {
            int left = worth.target - worth.valueOf(one);
            int right = worth.target - worth.valueOf(other);
            return fifteensWith(0, worth.target) + fifteensWith(1, left) + fifteensWith(1, right)
                + fifteensWith(2, left - worth.valueOf(other));
        }

        private long fifteensWith(int size, int missing) {
            long sum = 0;
            for (int j = Math.max(0, 2 - size); j <= 3 && missing >= 0 && missing <= MOST_COUNT; j++) {
                sum += ways[j][missing] * choose(free - j, 3 - j) * worth.countOf(FIFTEEN, IN_CRIB, size + j);
            }
            return sum;
        }

        private long pairs() {
            long sum = 0;
            for (int rank = 0; rank < RANKS; rank++) {
                long mine = (one / 4 == rank ? 1 : 0) + (other / 4 == rank ? 1 : 0);
                long come = freeOfRank[rank];
                long often = choose(mine, 2) * choose(free, 3) + mine * come * choose(free - 1, 2)
                    + choose(come, 2) * (free - 2);
                sum += often * worth.countOf(PAIR, IN_CRIB, rank);
            }
            return sum;
        }

        private long runs() {
            Arrays.fill(ranks, 0);
            ranks[one / 4]++;
            ranks[other / 4]++;
            long sum = 0;
            for (int a = 0; a < RANKS; a++) {
                for (int b = a; b < RANKS; b++) {
                    for (int c = b; c < RANKS; c++) {
                        sum += runsWith(a, b, c);
                    }
                }
            }
            return sum;
        }

        private long runsWith(int a, int b, int c) {
            long often;
            if (a == c) {
                often = choose(freeOfRank[a], 3);
            } else if (a == b) {
                often = choose(freeOfRank[a], 2) * freeOfRank[c];
            } else if (b == c) {
                often = choose(freeOfRank[b], 2) * freeOfRank[a];
            } else {
                often = (long) freeOfRank[a] * freeOfRank[b] * freeOfRank[c];
            }
            ranks[a]++;
            ranks[b]++;
            ranks[c]++;
            long counted = worth.runsOf(ranks, IN_CRIB);
            ranks[a]--;
            ranks[b]--;
            ranks[c]--;
            return often * counted;
        }

        private long flushes() {
            int suit = one % 4;
            if (other % 4 != suit) {
                return 0;
            }
            return choose(freeOfSuit[suit], 3) * worth.countOf(FLUSH, IN_CRIB, Worth.flushItem(suit, 5));
        }

        private long nobs(long cards) {
            long sum = 0;
            for (int suit = 0; suit < 4; suit++) {
                int jack = 4 * JACK + suit;
                long often = 0;
                if (one == jack || other == jack) {
                    often = freeOfSuit[suit] * choose(free - 1, 2);
                } else if (has(cards, jack)) {
                    often = (freeOfSuit[suit] - 1L) * (free - 2);
                }
                sum += often * worth.countOf(NOB, IN_CRIB, suit);
            }
            return sum;
        }
    }

    /** The best play to the end with both hands known. */
    private static final class Ending {
        final Table[] tables = new Table[9];
        int card;

        Ending() {
            for (int i = 0; i < tables.length; i++) {
                tables[i] = new Table();
            }
        }

        /** By how much whose turn it is can be ahead from now on; the lowest card for that goes into card. */
        int most(Table table, Worth worth) {
            tables[0].copyFrom(table);
            return best(0, worth);
        }

        private int best(int depth, Worth worth) {
            if (depth < 0 || depth + 1 >= tables.length || tables[depth].turn == NONE) {
                return 0;
            }
            Table table = tables[depth];
            Table next = tables[depth + 1];
            long left = table.playable(table.turn, worth);
            int most = NO_PLAY;
            for (int i = 0; i < 6 && left != 0; i++) {
                int tried = lowest(left);
                left &= left - 1;
                next.copyFrom(table);
                int gain = next.putDown(tried, worth);
                int rest = best(depth + 1, worth);
                int ahead = gain + (next.turn == table.turn ? rest : -rest);
                if (ahead > most) {
                    most = ahead;
                    if (depth == 0) {
                        card = tried;
                    }
                }
            }
            return most;
        }
    }
}
