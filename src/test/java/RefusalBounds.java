import java.util.Set;
import java.util.function.ToIntFunction;

/** The sentences of the part marked ==== 5: every call is given every mixture of right and wrong numbers in every state. */
final class RefusalBounds {
    private static final int NONE = Bounds.NONE, BAD = Bounds.BAD, STATE = Bounds.STATE, FULL = Bounds.FULL;
    private static final int MIN = Bounds.MIN, MAX = Bounds.MAX;
    private static final int TAKEN = 1;
    private static final Set<String> CHANGING = Set.of("tongue", "years", "feed", "law", "coin", "sound", "shorten",
        "loan", "forget", "split", "open", "limit", "hole", "claim", "act");
    private static final int[] TONGUES = {-1, 0, 1, 2, 3, 4, 6};
    private static final int[] MEANINGS = {-1, 0, 5, 6, 7, 8, 9, 10};
    private static final int[] FAR_OFF = {MIN, MAX};

    private final Bounds bounds;
    private World world;

    RefusalBounds(Bounds bounds) {
        this.bounds = bounds;
    }

    void ask() {
        bounds.sentence("==== 5 REFUSALS, of several the first one told: NONE there is no such TONGUE, MEANING, LAW, EVENT, WORD (where one is asked for), CLAIM, KIND, what, i; BAD a number is not as told; STATE as told; FULL. They change nothing.");
        for (int bits : new int[] {0, World.OPEN, World.NO_EVENTS, World.NO_TONGUES, World.NO_LAWS, World.NO_CLAIMS,
            World.NO_EVENTS | World.NO_TONGUES, World.OPEN | World.NO_CLAIMS, 31}) {
            world = new World(bits);
            standsAsTold();
            theWorld();
            theTruth();
            claims();
            acts();
            // No room that is gone has a part in what these refuse; so once with none, and once with all gone.
            if (bits == 0 || bits == 31) {
                lists();
                ordersAndTrees();
            }
        }
    }

    /** What the test takes for true of its world is true. */
    private void standsAsTold() {
        for (int t = 0; t < 6; t++) {
            for (int m = 0; m < 10; m++) {
                if (world.word(t, m)) bounds.reads(world.story, t, m, world.text(t, m));
                else bounds.takes(world.story, NONE, "word", t, m, -1);
                bounds.takes(world.story, world.listed(t, m) ? 0 : NONE, "cost", m, t, t);
            }
        }
        int[] counts = {world.tongues, world.laws, world.events, 18, world.claims, 30, world.bytes, 6};
        for (int what = 0; what < 8; what++) bounds.takes(world.story, counts[what], "count", what);
    }

    private static int[] all(int... numbers) {
        return numbers;
    }

    private void theWorld() {
        mix("tongue", g -> world.noTongues ? FULL : TAKEN);
        mix("years", g -> g[0] < 1 || g[0] > 500 ? BAD : TAKEN, all(MIN, -1, 0, 1, 500, 501, MAX));
        mix("feed", g -> g[1] < 1 || g[1] > 8 ? BAD : TAKEN, all(0, 97, -1), all(MIN, -1, 0, 1, 8, 9, MAX));
        if (world.noLaws) mix("law", g -> FULL);
        mix("coin", g -> !world.tongue(g[0]) || !world.meaning(g[1]) ? NONE : world.noEvents ? FULL : TAKEN, TONGUES, MEANINGS);
        mix("sound", g -> !world.tongue(g[0]) || !world.law(g[1]) ? NONE : world.noEvents ? FULL : TAKEN,
            TONGUES, all(-1, 0, 2, 3, 11, 12));
        mix("shorten", g -> !world.word(g[0], g[1]) ? NONE : world.text(g[0], g[1]).length() == 1 ? STATE
            : world.noEvents ? FULL : TAKEN, TONGUES, MEANINGS);
        mix("loan", g -> !world.word(g[1], g[0]) || !world.tongue(g[2]) ? NONE : g[1] == g[2] ? BAD
            : world.noEvents ? FULL : TAKEN, MEANINGS, TONGUES, TONGUES);
        mix("forget", g -> !world.word(g[0], g[1]) ? NONE : world.noEvents ? FULL : TAKEN, TONGUES, MEANINGS);
        mix("split", g -> !world.tongue(g[0]) ? NONE : world.noTongues || world.noEvents ? FULL : TAKEN, TONGUES);
        mix("word", g -> !world.word(g[0], g[1]) || g[2] < -1 || g[2] >= world.text(g[0], g[1]).length() ? NONE : TAKEN,
            TONGUES, all(-1, 0, 5, 6, 10), all(-2, -1, 0, 1, 4, 5));
    }

    private void theTruth() {
        mix("open", g -> world.open ? STATE : TAKEN);
        mix("truth", g -> !world.word(g[0], g[1]) || g[2] < 0 || g[2] > 1 ? NONE : world.open ? TAKEN : STATE,
            TONGUES, all(-1, 0, 6, 9, 10), all(-1, 0, 1, 2));
        mix("from", g -> !world.tongue(g[0]) || g[1] < 0 || g[1] > 1 ? NONE : world.open ? TAKEN : STATE,
            TONGUES, all(-1, 0, 1, 2));
        mix("event", g -> g[0] < 0 || g[0] >= world.events || g[1] < 0 || g[1] > 4 ? NONE : world.open ? TAKEN : STATE,
            all(-1, 0, 22, 23, 79, 80), all(-1, 0, 4, 5));
    }

    private boolean both(int m, int a, int b) {
        return world.listed(a, m) && world.listed(b, m);
    }

    private void lists() {
        mix("limit", g -> g[0] < 0 || g[0] > 60 ? BAD : TAKEN, all(MIN, -1, 0, 60, 61, MAX));
        mix("hole", g -> !world.tongue(g[0]) || !world.meaning(g[1]) ? NONE : TAKEN, TONGUES, MEANINGS, all(0, 1));
        mix("cost", g -> both(g[0], g[1], g[2]) ? TAKEN : NONE, MEANINGS, TONGUES, TONGUES);
        // The longest WAY of these WORDS that the numbers below reach has five places at the least.
        mix("way", g -> !both(g[0], g[1], g[2]) || g[3] < -1 || g[3] > 15 ? NONE : TAKEN,
            all(-1, 0, 8, 10), all(-1, 0, 1, 2, 3), all(-1, 0, 1, 2, 3), all(-2, -1, 0, 1, 16));
        mix("kin", g -> !both(g[0], g[1], g[2]) ? NONE : g[1] == g[2] ? BAD : TAKEN, MEANINGS, TONGUES, TONGUES);
        mix("set", g -> world.listed(g[1], g[0]) ? TAKEN : NONE, MEANINGS, TONGUES);
        mix("odds", g -> !world.listed(g[1], g[0]) || !world.tongue(g[2]) || g[3] < 0 || g[3] > 1 ? NONE : TAKEN,
            all(-1, 0, 6, 8, 10), TONGUES, TONGUES, all(-1, 0, 1, 2));
        mix("matches", g -> !world.tongue(g[0]) || !world.tongue(g[1]) ? NONE
            : g[0] == g[1] || g[2] < 0 || g[2] > 26 || g[3] < 0 || g[3] > 26 || g[2] == 0 && g[3] == 0 ? BAD : TAKEN,
            all(-1, 0, 1, 6), all(-1, 0, 1, 6), all(-1, 0, 1, 26, 27), all(-1, 0, 1, 26, 27));
        mix("far", g -> !world.tongue(g[0]) || !world.tongue(g[1]) || g[2] < 0 || g[2] > 1 ? NONE
            : g[0] == g[1] ? BAD : TAKEN, TONGUES, TONGUES, all(-1, 0, 1, 2));
        mix("borrowed", g -> !both(g[0], g[1], g[2]) ? NONE : g[1] == g[2] ? BAD : TAKEN, MEANINGS, TONGUES, TONGUES);
        mix("old", g -> !world.meaning(g[0]) || g[1] < 0 || g[1] > 2 ? NONE : TAKEN, MEANINGS, all(-1, 0, 1, 2, 3));
    }

    private void ordersAndTrees() {
        mix("best", g -> {
            int told = Integer.bitCount(g[2]);
            if (!world.tongue(g[0]) || !world.tongue(g[1]) || g[3] < -2) return NONE;
            if (g[0] == g[1] || g[2] < 0 || g[2] >= 1 << world.laws || told < 1 || told > 4) return BAD;
            return g[3] >= told ? NONE : TAKEN;
        }, all(-1, 0, 1, 6), all(-1, 0, 1, 6), all(MIN, -1, 0, 1, 7, 8, 15, 31, 4096), all(MIN, -3, -2, -1, 0, 2, 3, 4, MAX));
        mix("feeds", g -> !world.tongue(g[0]) || !world.law(g[1]) || !world.law(g[2]) ? NONE : g[1] == g[2] ? BAD : TAKEN,
            TONGUES, all(-1, 0, 2, 3, 12), all(-1, 0, 2, 3, 12));
        int[] trees = {0, 0, 0, 1, 3, 15, 105};
        int[] bits = {MIN, -1, 0, 1, 3, 7, 14, 15, 16, 19, 31, 63, 64, 71, MIN | 7, MAX};
        mix("steps", g -> !leaves(g[0]) || g[1] < 0 || g[1] >= trees[Integer.bitCount(g[0])] ? BAD : TAKEN,
            bits, all(MIN, -1, 0, 1, 2, 3, 14, 15, 104, 105, MAX));
        mix("tree", g -> !leaves(g[0]) ? BAD : g[1] < 0 || g[1] > 2 ? NONE : TAKEN, bits, all(MIN, -1, 0, 1, 2, 3, MAX));
    }

    private boolean leaves(int bits) {
        return bits >= 0 && bits < 1 << world.tongues && Integer.bitCount(bits) >= 3;
    }

    private void claims() {
        mix("claim", g -> !both(g[0], g[1], g[2]) ? NONE : g[1] == g[2] || g[4] < 0 || g[4] > 10 ? BAD
            : world.open ? STATE : world.noClaims ? FULL : TAKEN,
            all(-1, 0, 6, 8, 10), all(-1, 0, 1, 3, 6), all(-1, 0, 1, 3, 6), all(0, 1), all(-1, 0, 10, 11));
        mix("right", g -> g[0] < 0 || g[0] >= world.claims ? NONE : world.open ? TAKEN : STATE, all(-1, 0, 1, 2, 59, 60));
        mix("sure", g -> g[1] < 0 || g[1] > 1 ? NONE : g[0] < 0 || g[0] > 10 ? BAD : g[1] == 1 && !world.open ? STATE : TAKEN,
            all(-1, 0, 10, 11), all(-1, 0, 1, 2));
    }

    private void acts() {
        mix("trace", g -> g[0] < 0 || g[0] > 5 ? NONE : TAKEN, all(-1, 0, 5, 6, 19, 20));
        mix("as", g -> g[0] < 0 || g[0] >= world.events || g[1] < 0 || g[1] > 6 ? NONE : TAKEN,
            all(-1, 0, 22, 23, 79, 80), all(-1, 0, 3, 6, 7));
        mix("count", g -> g[0] < 0 || g[0] > 7 ? NONE : TAKEN, all(-1, 0, 7, 8));
    }

    /** Every mixture; and the first one that is taken, with each number in turn far off. */
    private void mix(String name, ToIntFunction<int[]> due, int[]... numbers) {
        int[] at = new int[numbers.length];
        int[] taken = null;
        boolean more = true;
        while (more) {
            int[] given = new int[at.length];
            for (int i = 0; i < at.length; i++) given[i] = numbers[i][at[i]];
            if (due.applyAsInt(given) == TAKEN && taken == null) taken = given;
            tries(name, due.applyAsInt(given), given);
            more = false;
            for (int i = at.length - 1; i >= 0 && !more; i--) {
                at[i] = (at[i] + 1) % numbers[i].length;
                more = at[i] != 0;
            }
        }
        for (int i = 0; taken != null && i < taken.length; i++) {
            for (int far : FAR_OFF) {
                int[] given = taken.clone();
                given[i] = far;
                if (due.applyAsInt(given) != TAKEN) tries(name, due.applyAsInt(given), given);
            }
        }
    }

    private void tries(String name, int due, int[] given) {
        Object[] told = new Object[given.length];
        for (int i = 0; i < told.length; i++) told[i] = given[i];
        if (due != TAKEN) {
            bounds.keeps(world.story, due, name, told);
        } else {
            bounds.isTaken(world.story, CHANGING.contains(name), name, told);
        }
    }
}
