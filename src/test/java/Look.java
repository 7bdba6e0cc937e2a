import java.util.ArrayList;
import java.util.List;

/**
 * What can be asked of an object at the end of its use. No look sees all, since an object has 512 calls alone and some
 * looks end what they look at; but all looks, each at an object of its own with the same story, see the whole state.
 */
final class Look {
    static final List<Look> ALL = all();
    /** So many calls a look may need, so that a story of 200 calls can be looked at. */
    private static final int MOST = 310;

    private final String name;
    private final List<Call> calls = new ArrayList<>();

    private Look(String name) {
        this.name = name;
    }

    private Look ask(String call, Object... given) {
        calls.add(new Call(call, given));
        return this;
    }

    int size() {
        return calls.size();
    }

    int[] at(SmallTongues tongues) {
        int[] seen = new int[calls.size()];
        for (int i = 0; i < seen.length; i++) seen[i] = calls.get(i).on(tongues);
        return seen;
    }

    String tell(int place) {
        return name + ": " + calls.get(place);
    }

    private static List<Look> all() {
        List<Look> looks = List.of(counts(), trace(), kinds(0), kinds(40), words(0), words(3), holesAndLimit(),
            origins(), roots(new Look("the truth as it stands, open or shut")),
            roots(new Look("the opened truth").ask("open")), events(0), events(40), tape(), laws(), lists());
        for (Look look : looks) {
            if (look.size() > MOST) throw new IllegalStateException(look.name + " asks too much");
        }
        return looks;
    }

    private static Look counts() {
        Look look = new Look("counts");
        for (int what = 0; what < 8; what++) look.ask("count", what);
        return look;
    }

    private static Look trace() {
        Look look = new Look("the trace");
        for (int i = 0; i < 21; i++) look.ask("trace", i);
        return look;
    }

    private static Look kinds(int first) {
        Look look = new Look("events as kinds");
        for (int i = first; i < first + 40; i++) {
            for (int k = 0; k < 7; k++) look.ask("as", i, k);
        }
        return look;
    }

    private static Look words(int first) {
        Look look = new Look("words");
        for (int t = first; t < first + 3; t++) {
            for (int m = 0; m < 10; m++) {
                for (int i = -1; i < 8; i++) look.ask("word", t, m, i);
            }
        }
        return look;
    }

    private static Look holesAndLimit() {
        Look look = new Look("holes, limit, claims");
        for (int t = 0; t < 6; t++) {
            for (int m = 0; m < 10; m++) look.ask("hole", t, m, false);
        }
        look.ask("limit", 0);
        for (int sure = 0; sure <= 10; sure++) look.ask("sure", sure, 0).ask("sure", sure, 1);
        return look.ask("right", 0);
    }

    /** Apart from the rest of THE TRUTH, and with no call ahead of it that could hide a change. */
    private static Look origins() {
        Look look = new Look("from where tongues are");
        for (int t = 0; t < 6; t++) look.ask("from", t, 0).ask("from", t, 1);
        return look;
    }

    private static Look roots(Look look) {
        for (int t = 0; t < 6; t++) {
            for (int m = 0; m < 10; m++) look.ask("truth", t, m, 0).ask("truth", t, m, 1);
            look.ask("from", t, 0).ask("from", t, 1);
        }
        for (int claim = 0; claim < 60; claim++) look.ask("right", claim);
        for (int sure = 0; sure <= 10; sure++) look.ask("sure", sure, 1);
        return look;
    }

    private static Look events(int first) {
        Look look = new Look("the opened truth of events").ask("open");
        for (int i = first; i < first + 40; i++) {
            for (int what = 0; what < 5; what++) look.ask("event", i, what);
        }
        return look;
    }

    /** What stands on THE TAPE is seen as a WORD, if it is one, or else by its fault. */
    private static Look tape() {
        Look look = new Look("the tape").ask("count", 6).ask("coin", 0, 0).ask("count", 6).ask("count", 3);
        for (int i = -1; i < 8; i++) look.ask("word", 0, 0, i);
        return look;
    }

    /** THE TAPE as a LAW, and what the LAWS do: in LISTS and, one behind the other, to a TONGUE. */
    private static Look laws() {
        Look look = new Look("laws").ask("law").ask("count", 1);
        for (int law = 0; law < 12; law++) {
            look.ask("best", 0, 1, 1 << law, -2);
            for (int other = law + 1; other < 12; other++) look.ask("feeds", 0, law, other);
        }
        for (int law = 0; law < 12; law++) look.ask("sound", 0, law);
        for (int m = 0; m < 10; m++) {
            for (int i = -1; i < 8; i++) look.ask("word", 0, m, i);
        }
        return look;
    }

    private static Look lists() {
        Look look = new Look("lists").ask("steps", 7, 0).ask("tree", 15, 0).ask("tree", 15, 1).ask("tree", 15, 2);
        for (int m = 0; m < 10; m++) {
            for (int what = 0; what < 3; what++) look.ask("old", m, what);
            for (int t = 0; t < 6; t++) look.ask("set", m, t).ask("cost", m, 0, t);
            look.ask("way", m, 0, 1, 1).ask("borrowed", m, 1, 0).ask("odds", m, 0, 1, 0);
        }
        return look.ask("far", 0, 1, 0).ask("matches", 0, 1, 1, 1);
    }
}
