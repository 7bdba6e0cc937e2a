import java.util.Random;

/** Runs of random calls, each answered by the class and by the oracle alike; and whatever is asked, nothing is thrown. */
public final class OracleTest {
    private static final Due DUE = new Due("OracleTest");
    private static final int RUNS = 160;
    private static final int CALLS = 512;
    private static final int MOST_OF_A_STEP = 12;
    private static final int MOST_OF_A_LOOK = 206;
    private static final int PARTS = 10;
    // Each run is run again so often, to be looked at as it was at some time.
    private static final int LOOKS = 3;
    private static final String SOUNDS = "pbtaei";
    // How many TREES so many TONGUES have; 1 where there are none, so that a number can be drawn.
    private static final int[] TREES = {1, 1, 1, 1, 3, 15, 105};
    private static final int[] WILD = {Integer.MIN_VALUE, Integer.MAX_VALUE, -1000, -7, -3, -2, -1, 0, 1, 6, 7, 10, 12, 26, 27, 61, 80, 501, 1 << 30};

    private final Random random;
    private final SmallTongues mine = new SmallTongues();
    private final Oracle theirs = new Oracle();
    private final String run;
    // How wild the numbers of this run are, and how many LAWS, SPLITS and so on it sees, differs from run to run.
    private final int wildness;
    private final int sounds;
    private int asked = 0;

    private OracleTest(int seed) {
        random = new Random(seed);
        run = "run " + seed + ": ";
        wildness = seed % 3 == 0 ? 10 : 60;
        sounds = 2 + seed % 5;
    }

    private int num(int bound) {
        if (random.nextInt(wildness) == 0) return WILD[random.nextInt(WILD.length)];
        return random.nextInt(bound);
    }

    private int tongue() {
        return num(random.nextInt(20) == 0 ? 7 : Math.max(1, theirs.count(0)));
    }

    private int meaning() {
        return num(random.nextInt(20) == 0 ? 11 : sounds % 2 == 0 ? 10 : 4);
    }

    private int anyLaw() {
        return num(random.nextInt(20) == 0 ? 13 : Math.max(1, theirs.count(1)));
    }

    private int anyEvent() {
        return num(Math.max(1, theirs.count(2) + 1));
    }

    private void due(String call, long got, long want) {
        asked++;
        DUE.is(run + call, got, want);
    }

    private char letter() {
        return SOUNDS.charAt(random.nextInt(sounds));
    }

    private String wordText() {
        StringBuilder text = new StringBuilder();
        int size = random.nextInt(40) == 0 ? random.nextInt(12) : 1 + random.nextInt(1 + random.nextInt(8));
        for (int i = 0; i < size; i++) text.append(letter());
        return spoiled(text);
    }

    private String lawText() {
        StringBuilder text = new StringBuilder();
        int changes = random.nextInt(12) == 0 ? 5 + random.nextInt(3) : 1 + random.nextInt(3);
        for (int i = 0; i < changes; i++) {
            if (i > 0) text.append(',');
            text.append(sign("VC")).append('>').append(random.nextInt(4) == 0 ? '0' : letter());
            if (random.nextBoolean()) {
                text.append('/');
                if (random.nextBoolean()) text.append(sign("VC#"));
                text.append('_');
                if (random.nextBoolean()) text.append(sign("VC#"));
            }
        }
        return spoiled(text);
    }

    private char sign(String others) {
        return random.nextInt(3) == 0 ? others.charAt(random.nextInt(others.length())) : letter();
    }

    private String spoiled(StringBuilder text) {
        int spoil = random.nextInt(25);
        if (spoil == 0 && text.length() > 0) text.setLength(random.nextInt(text.length()));
        if (spoil == 1 && text.length() > 0) text.setCharAt(random.nextInt(text.length()), "VC>0/_#, {`Az~\u00e9\u0000".charAt(random.nextInt(16)));
        if (spoil == 2) text.insert(random.nextInt(text.length() + 1), "VC>0/_#,a ".charAt(random.nextInt(10)));
        return text.toString();
    }

    private void feedText(String text) {
        for (int start = 0; start < text.length(); start += 8) {
            int end = Math.min(text.length(), start + 8);
            long w = random.nextInt();
            for (int i = start; i < end; i++) w = w << 8 | text.charAt(i);
            due("feed", mine.feed(w, end - start), theirs.feed(w, end - start));
        }
    }

    private void changeWorld() {
        int t = tongue(), m = meaning(), u = tongue(), l = anyLaw(), n = num(90);
        switch (random.nextInt(30)) {
            case 0: due("tongue", mine.tongue(), theirs.tongue()); break;
            case 1: n = random.nextInt(4) == 0 ? 400 + n : n; due("years", mine.years(n), theirs.years(n)); break;
            case 2: if (random.nextInt(3) > 0) break; long w = random.nextLong(); n = num(10); due("feed", mine.feed(w, n), theirs.feed(w, n)); break;
            case 3: case 4: feedText(lawText()); due("law", mine.law(), theirs.law()); break;
            case 5: case 6: case 7: case 8: coinIn(t, m); break;
            case 9: case 10: case 11: case 12: if (random.nextInt(4) == 0) coinIn(t, m); break;
            case 13: case 14: due("sound", mine.sound(t, l), theirs.sound(t, l)); break;
            case 15: due("shorten", mine.shorten(t, m), theirs.shorten(t, m)); break;
            case 16: case 17: due("loan", mine.loan(m, t, u), theirs.loan(m, t, u)); break;
            case 18: due("forget", mine.forget(t, m), theirs.forget(t, m)); break;
            case 19: due("split", mine.split(t), theirs.split(t)); break;
            case 20: n = num(random.nextInt(4) > 0 ? 15 : 62); due("limit", mine.limit(n), theirs.limit(n)); break;
            case 21: due("hole", mine.hole(t, m, true), theirs.hole(t, m, true)); break;
            case 22: due("hole", mine.hole(t, m, false), theirs.hole(t, m, false)); break;
            default:
                n = num(11); boolean kin = random.nextBoolean();
                due("claim", mine.claim(m, t, u, kin, n), theirs.claim(m, t, u, kin, n)); break;
        }
    }

    private void askLists() {
        int a = tongue(), b = tongue(), m = meaning(), what = num(3), i = num(10) - 1;
        switch (random.nextInt(11)) {
            case 0: due("cost", mine.cost(m, a, b), theirs.cost(m, a, b)); break;
            case 1: due("way", mine.way(m, a, b, i), theirs.way(m, a, b, i)); break;
            case 2: due("kin", mine.kin(m, a, b), theirs.kin(m, a, b)); break;
            case 3: due("set", mine.set(m, a), theirs.set(m, a)); break;
            case 4: due("odds", mine.odds(m, a, b, what), theirs.odds(m, a, b, what)); break;
            case 5:
                int x = random.nextInt(5) == 0 ? num(28) : letter() - 'a' + 1;
                int y = random.nextInt(5) == 0 ? num(28) : random.nextInt(4) == 0 ? 0 : letter() - 'a' + 1;
                due("matches", mine.matches(a, b, x, y), theirs.matches(a, b, x, y)); break;
            case 6: due("far", mine.far(a, b, what), theirs.far(a, b, what)); break;
            case 7: case 8: due("borrowed", mine.borrowed(m, a, b), theirs.borrowed(m, a, b)); break;
            default: due("old", mine.old(m, what), theirs.old(m, what)); break;
        }
    }

    private void askOrdersAndTrees() {
        int a = tongue(), b = tongue(), i = num(7) - 2, what = num(4), l = anyLaw(), k = anyLaw();
        int all = (1 << theirs.count(0)) - 1;
        int bits = random.nextInt(8) == 0 ? num(128) : random.nextInt(3) == 0 ? all : random.nextInt(all + 1);
        switch (random.nextInt(8)) {
            case 0: case 1: case 2:
                int laws = random.nextInt(10) == 0 ? num(1 << 13) : 0;
                for (int n = random.nextInt(4); n >= 0 && laws == 0; n--) laws |= theirs.count(1) == 0 ? 0 : 1 << random.nextInt(theirs.count(1));
                due("best", mine.best(a, b, laws, i), theirs.best(a, b, laws, i)); break;
            case 3: case 4: due("feeds", mine.feeds(a, l, k), theirs.feeds(a, l, k)); break;
            case 5: case 6: int tree = num(random.nextInt(8) == 0 ? 110 : TREES[Integer.bitCount(bits & 63)]); due("steps", mine.steps(bits, tree), theirs.steps(bits, tree)); break;
            default: due("tree", mine.tree(bits, what), theirs.tree(bits, what)); break;
        }
    }

    private void askTheRest() {
        int t = tongue(), m = meaning(), e = anyEvent(), what = num(9), i = num(10) - 1;
        int x = random.nextInt(3) == 0 ? random.nextInt() : random.nextInt(100);
        switch (random.nextInt(11)) {
            case 0: due("word", mine.word(t, m, i), theirs.word(t, m, i)); break;
            case 1: if (random.nextInt(20) == 0) due("open", mine.open(), theirs.open()); break;
            case 2: what = num(3); due("truth", mine.truth(t, m, what), theirs.truth(t, m, what)); break;
            case 3: what = num(3); due("from", mine.from(t, what), theirs.from(t, what)); break;
            case 4: what = num(6); due("event", mine.event(e, what), theirs.event(e, what)); break;
            case 5: int c = num(Math.max(1, theirs.count(4) + 1)); due("right", mine.right(c), theirs.right(c)); break;
            case 6: int s = num(12); what = num(3); due("sure", mine.sure(s, what), theirs.sure(s, what)); break;
            case 7: int act = num(4); due("act", mine.act(e, act, x), theirs.act(e, act, x)); break;
            case 8: due("trace", mine.trace(i), theirs.trace(i)); break;
            case 9: what = num(8); due("as", mine.as(e, what), theirs.as(e, what)); break;
            default: due("count", mine.count(what), theirs.count(what)); break;
        }
    }

    /** A part of all that can be seen, so that a call that changed what it should not is seen. */
    private void lookAround(int part) {
        if (part < 6) {
            for (int m = 0; m < 10; m++) {
                for (int i = -1; i < 8; i++) due("word in " + part, mine.word(part, m, i), theirs.word(part, m, i));
                due("set", mine.set(m, part), theirs.set(m, part));
            }
        } else if (part == 6) {
            for (int t = 0; t < 6; t++) {
                for (int m = 0; m < 10; m++) {
                    for (int what = 0; what < 2; what++) due("truth", mine.truth(t, m, what), theirs.truth(t, m, what));
                }
                for (int what = 0; what < 2; what++) due("from", mine.from(t, what), theirs.from(t, what));
            }
        } else if (part < 9) {
            int first = part == 7 ? 0 : 40;
            for (int i = first; i <= first + 40; i++) {
                for (int what = 0; what < 5; what++) due("event " + what, mine.event(i, what), theirs.event(i, what));
            }
        } else {
            for (int i = -1; i < 61; i++) due("right", mine.right(i), theirs.right(i));
            for (int i = -1; i < 21; i++) due("trace", mine.trace(i), theirs.trace(i));
            for (int what = -1; what < 9; what++) due("count", mine.count(what), theirs.count(what));
        }
    }

    /** Some TONGUES with WORDS, and some LAWS, so that what is asked later is mostly there. */
    private void settle() {
        int n = random.nextInt(14);
        due("limit", mine.limit(n), theirs.limit(n));
        due("tongue", mine.tongue(), theirs.tongue());
        int meanings = 2 + random.nextInt(9);
        for (int m = 0; m < meanings; m++) {
            if (random.nextInt(6) > 0) coinIn(0, m);
        }
        for (int t = 1; t < 2 + random.nextInt(5); t++) {
            if (random.nextInt(3) == 0) {
                due("tongue", mine.tongue(), theirs.tongue());
                for (int m = 0; m < meanings; m++) if (random.nextBoolean()) coinIn(t, m);
            } else {
                int of = random.nextInt(t);
                due("split", mine.split(of), theirs.split(of));
            }
        }
        for (int l = random.nextInt(6); l >= 0; l--) {
            feedText(lawText());
            due("law", mine.law(), theirs.law());
            int t = tongue();
            due("sound", mine.sound(t, 0), theirs.sound(t, 0));
        }
    }

    private void coinIn(int t, int m) {
        feedText(wordText());
        due("coin", mine.coin(t, m), theirs.coin(t, m));
    }

    /** A run of so many calls; a last step may need some more, for which there is room. */
    private void go(int calls) {
        settle();
        while (asked < calls) {
            switch (random.nextInt(8)) {
                case 0: case 1: case 2: changeWorld(); break;
                case 3: case 4: askLists(); break;
                case 5: askOrdersAndTrees(); break;
                default: askTheRest(); break;
            }
        }
    }

    /** The same run as far as it leaves calls enough for a look; half of them with THE TRUTH opened ahead of it. */
    private void goAndLook(int part, int calls) {
        go(calls);
        if (calls % 2 == 0) due("open", mine.open(), theirs.open());
        lookAround(part);
        DUE.so(run + "an object is used for 512 calls at most", asked <= CALLS);
    }

    public static void main(String[] args) {
        int runs = args.length > 0 ? Integer.parseInt(args[0]) : RUNS;
        for (int seed = 0; seed < runs; seed++) {
            OracleTest whole = new OracleTest(seed);
            whole.go(CALLS - MOST_OF_A_STEP);
            DUE.so("an object is used for 512 calls at most", whole.asked <= CALLS);
            for (int look = 0; look < LOOKS; look++) {
                int part = (seed * LOOKS + look) % PARTS;
                int calls = new Random(seed * LOOKS + look).nextInt(CALLS - MOST_OF_A_STEP - MOST_OF_A_LOOK);
                new OracleTest(seed).goAndLook(part, calls);
            }
        }
        DUE.end();
    }
}
