import java.util.Arrays;
import java.util.List;
import java.util.Map;

/** Two rooms made alike, a call on one of them alone: what it changed is what they tell differently. */
final class Twins {
    interface Maker {
        CribbageRoom make();
    }

    interface Deed {
        long on(CribbageRoom x);
    }

    private interface Probe {
        long[] at(CribbageRoom x);
    }

    /** What at() does not tell, as it comes to light by what is called then. */
    private static final Map<String, Probe> DEEP = Map.of("undo()", Look::undone, "the laws", Look::laws,
        "on paper", Look::paper, "the tape", Look::tape, "played on", Look::playedOn);
    private static final int[] CODES = {-1, -2, -3, -5, -6};

    private Twins() {
    }

    /** A call is refused by a number, status() tells it, it is counted once, and all but what is named is as it was. */
    static void refused(String where, Maker maker, String call, Deed deed, int code, String... changed) {
        String what = where + ": " + call;
        CribbageRoom x = maker.make();
        int[] before = counts(x);
        Checks.due(what, deed.on(x), code);
        Checks.due(what + ", status()", x.status(), code);
        int[] behind = counts(x);
        for (int i = 0; i < CODES.length; i++) {
            Checks.due(what + ", count(" + (13 + i) + ")", behind[i] - before[i], CODES[i] == code ? 1 : 0);
        }
        leaves(what, maker, deed, List.of(changed));
    }

    /** A call that is none of those that status() tells of changes nothing at all. */
    static void changesNothing(String where, Maker maker, String call, Deed deed) {
        String what = where + ": " + call;
        CribbageRoom x = maker.make();
        int status = x.status();
        int[] before = counts(x);
        deed.on(x);
        Checks.due(what + ", status()", x.status(), status);
        int[] behind = counts(x);
        for (int i = 0; i < CODES.length; i++) {
            Checks.due(what + ", count(" + (13 + i) + ")", behind[i], before[i]);
        }
        leaves(what, maker, deed, List.of());
    }

    /** A call that is not refused changes what is named, and nothing else that Look.at tells. */
    static void changes(String where, Maker maker, String call, Deed deed, long answer, String... changed) {
        String what = where + ": " + call;
        CribbageRoom x = maker.make();
        int[] before = counts(x);
        Checks.due(what, deed.on(x), answer);
        Checks.due(what + ", status()", x.status(), 0);
        int[] behind = counts(x);
        for (int i = 0; i < CODES.length; i++) {
            Checks.due(what + ", count(" + (13 + i) + ")", behind[i], before[i]);
        }
        same(what, Look.at(x), Look.at(maker.make()), List.of(changed));
    }

    private static int[] counts(CribbageRoom x) {
        int[] counts = new int[CODES.length];
        for (int i = 0; i < counts.length; i++) {
            counts[i] = x.count(13 + i);
        }
        return counts;
    }

    private static void leaves(String what, Maker maker, Deed deed, List<String> changed) {
        CribbageRoom shallow = maker.make();
        deed.on(shallow);
        same(what, Look.at(shallow), Look.at(maker.make()), changed);
        for (String name : DEEP.keySet()) {
            if (!name.equals("the tape") || !changed.contains("count(12)")) {
                CribbageRoom with = maker.make();
                deed.on(with);
                boolean alike = Arrays.equals(DEEP.get(name).at(with), DEEP.get(name).at(maker.make()));
                Checks.isSo(what + " leaves what " + name + " tells", alike);
            }
        }
        for (int k = 0; k < 2; k++) {
            CribbageRoom with = maker.make();
            deed.on(with);
            CribbageRoom without = maker.make();
            Checks.due(what + ", back(" + k + ") then", with.back(k), without.back(k));
            same(what + ", back(" + k + ")", Look.at(with), Look.at(without), changed);
        }
    }

    /** Two Looks are alike but for what is named. */
    static void same(String what, long[] got, long[] want, List<String> changed) {
        Checks.due(what + ", how much is told", got.length, want.length);
        boolean alike = true;
        for (int i = 0; i < got.length && i < want.length; i++) {
            if (got[i] != want[i] && !changed.contains(Look.name(i))) {
                Checks.due(what + ", " + Look.name(i) + " behind it", got[i], want[i]);
                alike = false;
            }
        }
        Checks.isSo(what + " leaves the rest", alike);
    }
}
