import java.util.ArrayList;
import java.util.Arrays;
import java.util.HashMap;
import java.util.List;
import java.util.Map;
import java.util.TreeSet;

/**
 * The document once more, in its plainest form and by other means than the class has: lists and sets of
 * cards, trees for texts, every set of cards tried where something is counted.
 */
final class Model {
    static final int NONE = -1;

    /** All that undo() takes back. */
    static final class Deal {
        List<TreeSet<Integer>> hands = new ArrayList<>(List.of(new TreeSet<>(), new TreeSet<>()));
        int[] pegs = new int[2];
        int dealer = 1;
        TreeSet<Integer> crib = new TreeSet<>();
        int starter = NONE;
        int phase;
        TreeSet<Integer> played = new TreeSet<>();
        List<Integer> line = new ArrayList<>();
        int count;
        int turn = NONE;
        int last = NONE;
        int number;

        Deal copy() {
            Deal d = new Deal();
            d.hands = new ArrayList<>(List.of(new TreeSet<>(hands.get(0)), new TreeSet<>(hands.get(1))));
            d.pegs = pegs.clone();
            d.dealer = dealer;
            d.crib = new TreeSet<>(crib);
            d.starter = starter;
            d.phase = phase;
            d.played = new TreeSet<>(played);
            d.line = new ArrayList<>(line);
            d.count = count;
            d.turn = turn;
            d.last = last;
            d.number = number;
            return d;
        }
    }

    static final class Kept {
        Deal deal = new Deal();
        TreeSet<Integer> held = new TreeSet<>();
        List<int[]> seen = new ArrayList<>();
        List<List<Grammar.Clause>> laws = new ArrayList<>();
        int force = NONE;
        int[] terms = {0, 1, 0, 15};

        Kept copy() {
            Kept k = new Kept();
            k.deal = deal.copy();
            k.held = new TreeSet<>(held);
            k.seen = new ArrayList<>(seen);
            k.laws = new ArrayList<>(laws);
            k.force = force;
            k.terms = terms.clone();
            return k;
        }
    }

    private record Step(int kind, Deal before) {
    }

    private Kept now = new Kept();
    private final Kept[] images = new Kept[2];
    private List<Step> steps = new ArrayList<>();
    private final List<Integer> tape = new ArrayList<>();
    private int fault = NONE;
    private int jokers;
    private int stopped = NONE;
    private int[] drawn = {NONE, NONE};
    private final int[] refused = new int[7];
    private int status;
    private static final List<String> KINDS = List.of("value", "fifteen", "pair", "run", "flush", "nob", "bars");
    // What a law told already, by what it was asked of; each entry is of the time that it bears.
    private final int[] known = new int[KINDS.size() * 14 * 5 * 10 * 3];
    private final int[] knownAt = new int[known.length];
    private int time = 1;
    private int knownLaw = -2;
    private int knownDeal;

    private int refuse(int code) {
        status = code;
        refused[-code]++;
        return code;
    }

    private int grant(int answer) {
        status = 0;
        return answer;
    }

    private static boolean isCard(int c) {
        return c >= 0 && c <= 51;
    }

    // ---- What a law says ----

    private int told(int law, Deal d, String kind, int rank, int suit, int size, int crib, int without) {
        int key = (((KINDS.indexOf(kind) * 14 + rank + 1) * 5 + suit + 1) * 10 + size + 1) * 3 + crib + 1;
        if (law != knownLaw || d.number != knownDeal) {
            time++;
            knownLaw = law;
            knownDeal = d.number;
        }
        if (knownAt[key] == time) {
            return known[key];
        }
        long answer = without;
        Map<String, Integer> words = Map.of("rank", rank, "suit", suit, "size", size, "crib", crib, "deal", d.number, "mood", now.terms[2]);
        List<Grammar.Clause> clauses = law == NONE ? List.of() : now.laws.get(law);
        for (Grammar.Clause c : clauses) {
            if (!c.kind.equals(kind)) {
                continue;
            }
            try {
                if (c.test == null || c.test.work(words) != 0) {
                    answer = c.sums.isEmpty() ? 1 : c.sums.get(0).work(words);
                }
            } catch (Grammar.Broken e) {
                continue;
            }
        }
        if (kind.equals("value")) {
            answer = answer < 1 ? 1 : answer > 31 ? 31 : answer;
        } else {
            answer = answer < 0 ? 0 : answer > 99 ? 99 : answer;
        }
        known[key] = (int) answer;
        knownAt[key] = time;
        return known[key];
    }

    private int value(int law, Deal d, int card) {
        return told(law, d, "value", card / 4, card % 4, -1, -1, card / 4 + 1 > 10 ? 10 : card / 4 + 1);
    }

    private boolean barred(Deal d, int card) {
        return told(now.force, d, "bars", card / 4, card % 4, -1, -1, 0) == 1;
    }

    /** all, fifteens, pairs, runs, flush, nobs. */
    private int[] countFive(int law, Deal d, int[] four, int starter, boolean crib) {
        int where = crib ? 1 : 0;
        int[] five = Arrays.copyOf(four, 5);
        five[4] = starter;
        int[] parts = new int[6];
        for (int set = 0; set < 32; set++) {
            int sum = 0;
            for (int i = 0; i < 5; i++) {
                sum += (set & 1 << i) != 0 ? value(law, d, five[i]) : 0;
            }
            int size = Integer.bitCount(set);
            if (size >= 2 && sum == now.terms[3]) {
                parts[1] += told(law, d, "fifteen", -1, -1, size, where, 2);
            }
        }
        for (int i = 0; i < 5; i++) {
            for (int j = 0; j < i; j++) {
                if (five[i] / 4 == five[j] / 4) {
                    parts[2] += told(law, d, "pair", five[i] / 4, -1, 2, where, 2);
                }
            }
        }
        for (int k = 5; k >= 3 && parts[3] == 0; k--) {
            int ways = 0;
            for (int set = 0; set < 32; set++) {
                ways += Integer.bitCount(set) == k && isRun(five, set) ? 1 : 0;
            }
            if (ways > 0) {
                parts[3] = ways * told(law, d, "run", -1, -1, k, where, k);
                break;
            }
        }
        boolean fourAlike = true;
        int suit = four[0] % 4;
        for (int c : four) {
            fourAlike &= c % 4 == suit;
        }
        if (fourAlike && starter % 4 == suit) {
            parts[4] = told(law, d, "flush", -1, suit, 5, where, 5);
        } else if (fourAlike && !crib) {
            parts[4] = told(law, d, "flush", -1, suit, 4, where, 4);
        }
        for (int c : four) {
            if (c / 4 == 10 && c % 4 == starter % 4) {
                parts[5] += told(law, d, "nob", -1, c % 4, -1, where, 1);
            }
        }
        parts[0] = parts[1] + parts[2] + parts[3] + parts[4] + parts[5];
        return parts;
    }

    private static boolean isRun(int[] cards, int set) {
        TreeSet<Integer> ranks = new TreeSet<>();
        for (int i = 0; i < cards.length; i++) {
            if ((set & 1 << i) != 0) {
                ranks.add(cards[i] / 4);
            }
        }
        return ranks.size() == Integer.bitCount(set) && ranks.last() - ranks.first() == ranks.size() - 1;
    }

    private static int[] asArray(Iterable<Integer> cards) {
        List<Integer> list = new ArrayList<>();
        cards.forEach(list::add);
        return list.stream().mapToInt(Integer::intValue).toArray();
    }

    // ---- The faces' calls, one by one ----

    int card(int card, int what) {
        time++;
        Deal d = now.deal;
        if (!isCard(card)) {
            return NONE;
        }
        return switch (what) {
            case 0 -> value(now.force, d, card);
            case 1 -> barred(d, card) ? 1 : 0;
            case 2 -> d.hands.get(0).contains(card) ? 0 : d.hands.get(1).contains(card) ? 1 : d.crib.contains(card) ? 2 : d.starter == card ? 3 : NONE;
            case 3 -> d.played.contains(card) ? 1 : 0;
            case 4 -> now.held.contains(card) ? 1 : 0;
            default -> NONE;
        };
    }

    int hand(int player, int what) {
        if (player < 0 || player > 1) {
            return NONE;
        }
        List<Integer> cards = new ArrayList<>(now.deal.hands.get(player));
        if (what == 0) {
            return cards.size();
        }
        if (what >= 1 && what <= 6) {
            return what - 1 < cards.size() ? cards.get(what - 1) : NONE;
        }
        if (what == 7) {
            return now.deal.pegs[player];
        }
        if (what == 8) {
            cards.removeAll(now.deal.played);
            return cards.size();
        }
        return NONE;
    }

    int terms(int what, int value) {
        int[][] bounds = {{0, 999}, {0, 10}, {0, 9}, {5, 31}};
        if (what < 0 || what > 3 || value < bounds[what][0] || value > bounds[what][1]) {
            return refuse(-1);
        }
        int was = what == 0 ? now.deal.number : now.terms[what];
        if (what == 0) {
            now.deal.number = value;
        } else {
            now.terms[what] = value;
        }
        steps.clear();
        return grant(was);
    }

    int feed(int a, int b, int c, int d, int e) {
        if (tape.size() > 380) {
            return NONE;
        }
        for (int n : new int[] {a, b, c, d, e}) {
            tape.add(n >>> 24);
            tape.add(n >>> 16 & 255);
            tape.add(n >>> 8 & 255);
            tape.add(n & 255);
        }
        return tape.size();
    }

    int end(int n) {
        if (n < 0 || n > tape.size()) {
            return NONE;
        }
        while (tape.size() > n) {
            tape.remove(tape.size() - 1);
        }
        return n;
    }

    int row() {
        if (tape.isEmpty()) {
            return refuse(-6);
        }
        now.held.clear();
        jokers = 0;
        for (int b : tape) {
            if (!isCard(b) || now.held.contains(b) || now.held.size() == 6) {
                jokers++;
            } else {
                now.held.add(b);
            }
        }
        tape.clear();
        return grant(now.held.size());
    }

    int jokers() {
        return jokers;
    }

    private List<Grammar.Clause> read(boolean law) {
        StringBuilder text = new StringBuilder();
        for (int b : tape) {
            text.append((char) b);
        }
        tape.clear();
        Grammar grammar = new Grammar(text.toString(), law);
        List<Grammar.Clause> clauses = grammar.read();
        fault = grammar.fault;
        return clauses;
    }

    int law() {
        if (now.laws.size() == 6) {
            tape.clear();
            return refuse(-5);
        }
        List<Grammar.Clause> clauses = read(true);
        if (clauses == null) {
            return refuse(-6);
        }
        now.laws.add(clauses);
        return grant(now.laws.size() - 1);
    }

    int orders() {
        stopped = NONE;
        List<Grammar.Clause> clauses = read(false);
        if (clauses == null) {
            return refuse(-6);
        }
        Deal before = now.deal.copy();
        List<Step> stepsBefore = new ArrayList<>(steps);
        int done = 0;
        int latest = -1;
        for (int i = 0; i < clauses.size(); i++) {
            Grammar.Clause c = clauses.get(i);
            for (int t = 0; t < c.times; t++) {
                Map<String, Integer> words = orderWords(done, latest);
                if (!wanted(c, words)) {
                    continue;
                }
                int answer = obey(c, words);
                if (answer < 0) {
                    stopped = i;
                    now.deal = before;
                    steps = stepsBefore;
                    return refuse(-3);
                }
                done++;
                latest = c.kind.equals("play") ? answer : latest;
            }
        }
        return grant(done);
    }

    private static boolean wanted(Grammar.Clause c, Map<String, Integer> words) {
        try {
            return c.test == null || c.test.work(words) != 0;
        } catch (Grammar.Broken e) {
            return false;
        }
    }

    private int obey(Grammar.Clause c, Map<String, Integer> words) {
        long[] of = new long[2];
        try {
            for (int i = 0; i < c.sums.size(); i++) {
                of[i] = c.sums.get(i).work(words);
            }
        } catch (Grammar.Broken e) {
            return -3;
        }
        return switch (c.kind) {
            case "deal" -> tryDeal((int) of[0]);
            case "lay" -> tryLay((int) of[0], (int) of[1]);
            case "play" -> tryPlay((int) of[0], (int) of[1]);
            default -> tryShow();
        };
    }

    private Map<String, Integer> orderWords(int done, int latest) {
        Map<String, Integer> words = new HashMap<>();
        words.put("done", done);
        words.put("latest", latest);
        words.put("phase", now.deal.phase);
        words.put("count", now.deal.count);
        words.put("turn", now.deal.turn);
        for (int p = 0; p < 2; p++) {
            words.put("pegs" + p, now.deal.pegs[p]);
            for (int k = 0; k < 6; k++) {
                words.put("card" + (6 * p + k), hand(p, 1 + k));
            }
        }
        return words;
    }

    int fault() {
        return fault;
    }

    int stopped() {
        return stopped;
    }

    int force(int law) {
        if (law < -1 || law >= now.laws.size()) {
            return refuse(-2);
        }
        int was = now.force;
        now.force = law;
        time++;
        return grant(was);
    }

    private static int nextOf(int s) {
        return (int) (((long) s * 1103 + 12345) % 1000003);
    }

    private static int dealTo(Deal d, int s) {
        d.dealer = 1 - d.dealer;
        List<Integer> pack = new ArrayList<>();
        for (int c = 0; c < 52; c++) {
            pack.add(c);
        }
        d.hands.get(0).clear();
        d.hands.get(1).clear();
        int to = 1 - d.dealer;
        for (int i = 0; i < 12; i++) {
            s = nextOf(s);
            d.hands.get(to).add(pack.remove(s % pack.size()));
            to = 1 - to;
        }
        s = nextOf(s);
        d.starter = pack.remove(s % pack.size());
        d.crib.clear();
        d.played.clear();
        d.line.clear();
        d.count = 0;
        d.last = NONE;
        d.turn = NONE;
        d.phase = 1;
        d.number++;
        return s;
    }

    private int tryDeal(int seed) {
        time++;
        if (seed < 0 || seed > 1000000) {
            return -1;
        }
        if (now.deal.phase == 1 || now.deal.phase == 2 || now.deal.number == 999) {
            return -3;
        }
        remember(0);
        dealTo(now.deal, seed);
        return now.deal.starter;
    }

    private void remember(int kind) {
        steps.add(new Step(kind, now.deal.copy()));
        if (steps.size() > 16) {
            steps.remove(0);
        }
    }

    private int tell(int answer) {
        return answer < 0 ? refuse(answer) : grant(answer);
    }

    int deal(int seed) {
        return tell(tryDeal(seed));
    }

    private List<Integer> playable(Deal d, int player) {
        List<Integer> cards = new ArrayList<>();
        for (int c : d.hands.get(player)) {
            if (!d.played.contains(c) && !barred(d, c) && d.count + value(now.force, d, c) <= 31) {
                cards.add(c);
            }
        }
        return cards;
    }

    private int whoCan(Deal d, int a) {
        return !playable(d, a).isEmpty() ? a : !playable(d, 1 - a).isEmpty() ? 1 - a : NONE;
    }

    private static void peg(Deal d, int player, int more) {
        d.pegs[player] = Math.min(9999, d.pegs[player] + more);
    }

    private void layIn(Deal d, int card, int player) {
        d.hands.get(player).remove(card);
        d.crib.add(card);
        if (d.hands.get(0).size() == 4 && d.hands.get(1).size() == 4) {
            d.phase = 2;
            if (d.starter / 4 == 10) {
                peg(d, d.dealer, 2);
            }
            d.turn = whoCan(d, 1 - d.dealer);
        }
    }

    private int tryLay(int card, int player) {
        time++;
        if (!isCard(card) || player < 0 || player > 1) {
            return -1;
        }
        Deal d = now.deal;
        if (d.phase != 1 || !d.hands.get(player).contains(card) || d.hands.get(player).size() <= 4) {
            return -3;
        }
        remember(1);
        layIn(d, card, player);
        return d.crib.size();
    }

    int lay(int card, int player) {
        return tell(tryLay(card, player));
    }

    private int playIn(Deal d, int card) {
        int player = d.turn;
        d.played.add(card);
        d.line.add(card);
        d.count += value(now.force, d, card);
        d.last = player;
        int more = 0;
        if (d.count == now.terms[3]) {
            more += told(now.force, d, "fifteen", -1, -1, d.line.size(), -1, 2);
        }
        if (d.count == 31) {
            more += 2;
        }
        int[] line = asArray(d.line);
        for (int k = line.length; k >= 2; k--) {
            int[] end = Arrays.copyOfRange(line, line.length - k, line.length);
            if (Arrays.stream(end).allMatch(c -> c / 4 == end[0] / 4)) {
                more += told(now.force, d, "pair", card / 4, -1, 2, -1, 2) * k * (k - 1) / 2;
                break;
            }
        }
        for (int k = line.length; k >= 3; k--) {
            int[] end = Arrays.copyOfRange(line, line.length - k, line.length);
            if (isRun(end, (1 << k) - 1)) {
                more += told(now.force, d, "run", -1, -1, k, -1, k);
                break;
            }
        }
        if (!playable(d, 1 - player).isEmpty()) {
            d.turn = 1 - player;
        } else if (playable(d, player).isEmpty()) {
            more += d.count == 31 ? 0 : 1;
            d.count = 0;
            d.line.clear();
            d.turn = whoCan(d, 1 - d.last);
        }
        peg(d, player, more);
        return more;
    }

    private int tryPlay(int card, int player) {
        time++;
        if (!isCard(card) || player < 0 || player > 1) {
            return -1;
        }
        Deal d = now.deal;
        if (d.phase != 2 || d.turn != player || !playable(d, player).contains(card)) {
            return -3;
        }
        remember(2);
        return playIn(d, card);
    }

    int play(int card, int player) {
        return tell(tryPlay(card, player));
    }

    private int showIn(Deal d) {
        int pone = countFive(now.force, d, asArray(d.hands.get(1 - d.dealer)), d.starter, false)[0];
        int dealer = countFive(now.force, d, asArray(d.hands.get(d.dealer)), d.starter, false)[0];
        int crib = countFive(now.force, d, asArray(d.crib), d.starter, true)[0];
        peg(d, 1 - d.dealer, pone);
        peg(d, d.dealer, dealer + crib);
        d.phase = 3;
        return pone + dealer + crib;
    }

    private int tryShow() {
        time++;
        if (now.deal.phase != 2 || now.deal.turn != NONE) {
            return -3;
        }
        remember(3);
        return showIn(now.deal);
    }

    int show() {
        return tell(tryShow());
    }

    int undo() {
        if (steps.isEmpty()) {
            return refuse(-3);
        }
        Step step = steps.remove(steps.size() - 1);
        now.deal = step.before();
        return grant(step.kind());
    }

    int hold(int card) {
        if (!isCard(card)) {
            return refuse(-1);
        }
        if (now.held.contains(card)) {
            return refuse(-3);
        }
        if (now.held.size() >= 6) {
            return refuse(-5);
        }
        now.held.add(card);
        return grant(now.held.size());
    }

    int drop() {
        int were = now.held.size();
        now.held.clear();
        return were;
    }

    int counted(int starter, int crib, int what) {
        time++;
        if (now.held.size() != 4 || !isCard(starter) || now.held.contains(starter) || crib < 0 || crib > 1 || what < 0 || what > 5) {
            return NONE;
        }
        return countFive(now.force, now.deal, asArray(now.held), starter, crib == 1)[what];
    }

    private List<int[]> twoAway() {
        List<int[]> twos = new ArrayList<>();
        for (int a : now.held) {
            for (int b : now.held.tailSet(a, false)) {
                twos.add(new int[] {a, b});
            }
        }
        return twos;
    }

    private int[] without(int[] two) {
        return now.held.stream().filter(c -> c != two[0] && c != two[1]).mapToInt(Integer::intValue).toArray();
    }

    private List<Integer> free() {
        List<Integer> cards = new ArrayList<>();
        for (int c = 0; c < 52; c++) {
            if (!now.held.contains(c)) {
                cards.add(c);
            }
        }
        return cards;
    }

    int kept(int what) {
        time++;
        if (now.held.size() != 6 || what < 0 || what > 2) {
            return NONE;
        }
        int[] best = null;
        int most = -1;
        for (int[] two : twoAway()) {
            int sum = 0;
            for (int starter : free()) {
                sum += countFive(now.force, now.deal, without(two), starter, false)[0];
            }
            if (sum > most) {
                most = sum;
                best = two;
            }
        }
        return what == 0 ? most : best[what - 1];
    }

    long cribOf(int one, int other) {
        time++;
        if (!isCard(one) || !isCard(other) || one == other) {
            return NONE;
        }
        List<Integer> cards = free();
        cards.remove(Integer.valueOf(one));
        cards.remove(Integer.valueOf(other));
        long sum = 0;
        for (int i = 0; i < cards.size(); i++) {
            for (int j = 0; j < i; j++) {
                int[] four = {one, other, cards.get(i), cards.get(j)};
                for (int k = 0; k < cards.size(); k++) {
                    if (k != i && k != j) {
                        sum += countFive(now.force, now.deal, four, cards.get(k), true)[0];
                    }
                }
            }
        }
        return sum;
    }

    int byStarters(int n) {
        time++;
        if (n < 0 || n > 999 || now.held.size() != 4) {
            return NONE;
        }
        int many = 0;
        for (int starter : free()) {
            many += countFive(now.force, now.deal, asArray(now.held), starter, false)[0] >= n ? 1 : 0;
        }
        return many;
    }

    int bestStarter(int what) {
        time++;
        if (what < 0 || what > 1 || now.held.size() != 4) {
            return NONE;
        }
        int best = NONE;
        int most = -1;
        for (int starter : free()) {
            int counted = countFive(now.force, now.deal, asArray(now.held), starter, false)[0];
            if (counted > most) {
                most = counted;
                best = starter;
            }
        }
        return what == 0 ? best : most;
    }

    /** By how much, the card. */
    private int[] best(Deal d) {
        int[] best = null;
        for (int c : playable(d, d.turn)) {
            Deal next = d.copy();
            int more = playIn(next, c);
            int rest = next.turn == NONE ? 0 : best(next)[0];
            int ahead = next.turn == d.turn ? more + rest : more - rest;
            if (best == null || ahead > best[0]) {
                best = new int[] {ahead, c};
            }
        }
        return best;
    }

    int toEnd(int what) {
        time++;
        if (what < 0 || what > 1 || now.deal.turn == NONE) {
            return -1000;
        }
        int[] best = best(now.deal);
        return best == null ? -1000 : best[what];
    }

    int seen(int starter, int n) {
        if (!isCard(starter) || n < 0 || n > 999) {
            return refuse(-1);
        }
        if (now.seen.size() >= 6) {
            return refuse(-5);
        }
        now.seen.add(new int[] {starter, n});
        return grant(now.seen.size());
    }

    int forget() {
        int were = now.seen.size();
        now.seen.clear();
        return were;
    }

    int canBe() {
        time++;
        if (now.held.size() != 6) {
            return NONE;
        }
        int bits = 0;
        List<int[]> twos = twoAway();
        for (int i = 0; i < 15; i++) {
            boolean so = true;
            for (int[] s : now.seen) {
                so = so && !now.held.contains(s[0]) && countFive(now.force, now.deal, without(twos.get(i)), s[0], false)[0] == s[1];
            }
            bits += so ? 1 << i : 0;
        }
        return bits;
    }

    int ask(int what) {
        int bits = canBe();
        if (bits == NONE || bits == 0 || what < 0 || what > 1) {
            return NONE;
        }
        List<int[]> twos = twoAway();
        int best = NONE;
        int fewest = 99;
        for (int starter : free()) {
            Map<Integer, Integer> groups = new HashMap<>();
            for (int i = 0; i < 15; i++) {
                if ((bits & 1 << i) != 0) {
                    groups.merge(countFive(now.force, now.deal, without(twos.get(i)), starter, false)[0], 1, Integer::sum);
                }
            }
            int most = groups.values().stream().mapToInt(Integer::intValue).max().orElse(0);
            if (most < fewest) {
                fewest = most;
                best = starter;
            }
        }
        return what == 0 ? best : fewest;
    }

    long few(int k, int n) {
        if (k < 1 || k > 20 || n < 0 || n > 99) {
            return NONE;
        }
        long[] parts = new long[n + 1];
        parts[0] = 1000000000000L;
        for (int i = 0; i < n; i++) {
            long[] next = new long[n + 1];
            for (int j = 0; j <= i; j++) {
                next[j] += parts[j] * (10 - now.terms[1]) / 10;
                next[j + 1] += parts[j] * now.terms[1] / 10;
            }
            parts = next;
        }
        return Arrays.stream(parts, 0, Math.min(k, n + 1)).sum();
    }

    int compare(int law, int starter) {
        time++;
        if (law < -1 || law >= now.laws.size() || now.held.size() != 4 || !isCard(starter) || now.held.contains(starter)) {
            return NONE;
        }
        return countFive(law, now.deal, asArray(now.held), starter, false)[0];
    }

    int rubbers(int seed, int n) {
        time++;
        if (seed < 0 || seed > 1000000 || n < 1 || n > 20) {
            return refuse(-1);
        }
        Deal d = now.deal.copy();
        int before = d.pegs[0] + d.pegs[1];
        int s = seed;
        for (int i = 0; i < n && d.number < 999; i++) {
            s = dealTo(d, s);
            for (int p : new int[] {1 - d.dealer, 1 - d.dealer, d.dealer, d.dealer}) {
                layIn(d, d.hands.get(p).last(), p);
            }
            while (d.turn != NONE) {
                playIn(d, playable(d, d.turn).get(0));
            }
            showIn(d);
        }
        drawn = d.pegs.clone();
        return grant(d.pegs[0] + d.pegs[1] - before);
    }

    int drawn(int player) {
        return player == 0 || player == 1 ? drawn[player] : NONE;
    }

    int image(int k) {
        if (k < 0 || k > 1) {
            return refuse(-1);
        }
        images[k] = now.copy();
        return grant(0);
    }

    int back(int k) {
        if (k < 0 || k > 1) {
            return refuse(-1);
        }
        if (images[k] == null) {
            return refuse(-2);
        }
        now = images[k].copy();
        steps.clear();
        return grant(0);
    }

    int count(int what) {
        Deal d = now.deal;
        if (what >= 13 && what <= 17) {
            return refused[new int[] {1, 2, 3, 5, 6}[what - 13]];
        }
        if (what >= 19 && what <= 22) {
            return what == 19 ? d.number : now.terms[what - 19];
        }
        return switch (what) {
            case 0 -> d.phase;
            case 1 -> d.dealer;
            case 2 -> d.starter;
            case 3 -> d.crib.size();
            case 4 -> d.count;
            case 5 -> d.line.size();
            case 6 -> d.turn;
            case 7 -> d.last;
            case 8 -> now.held.size();
            case 9 -> now.seen.size();
            case 10 -> now.laws.size();
            case 11 -> steps.size();
            case 12 -> tape.size();
            case 18 -> now.force;
            default -> NONE;
        };
    }

    int status() {
        return status;
    }
}
