/** Promises 1 to 18, the world, THE TRUTH and what is told to LISTS: each by its first and last numbers, empty and full. */
final class WorldBounds {
    private static final int NONE = Bounds.NONE, BAD = Bounds.BAD, STATE = Bounds.STATE, FULL = Bounds.FULL;
    private static final int MIN = Bounds.MIN, MAX = Bounds.MAX;
    private static final String COIN = "COIN: THE TAPE, which is empty then, is a TONGUE's WORD of a MEANING (in place of its own): its ROOT (from 0 on); -10 less the place of the first byte that is no letter (8, if there are more; 0, if there are none). NONE; FULL: EVENTS (THE TAPE stays with both).";
    private static final Story RICH = new World(0).story;
    /** The same without the two bytes of THE TAPE. */
    private static final Story EMPTY_TAPE = new World(World.NO_BYTES).story;
    private static final Story RICH_OPEN = new World(World.OPEN).story;

    private final Bounds bounds;

    WorldBounds(Bounds bounds) {
        this.bounds = bounds;
    }

    void ask() {
        newObject();
        tongue();
        years();
        feed();
        law();
        coin();
        coinRefused();
        sound();
        shorten();
        loan();
        forget();
        split();
        word();
        open();
        truth();
        from();
        event();
        limit();
        hole();
    }

    private void newObject() {
        bounds.sentence("No TONGUES.");
        for (int what = 0; what < 8; what++) bounds.keeps(Story.NEW, 0, "count", what);
        bounds.keeps(Story.NEW, NONE, "coin", 0, 0);
        bounds.keeps(Story.NEW, NONE, "sound", 0, 0);
        bounds.keeps(Story.NEW, NONE, "split", 0);
        bounds.keeps(Story.NEW, NONE, "word", 0, 0, -1);
        bounds.keeps(Story.NEW, NONE, "hole", 0, 0, true);
        bounds.keeps(Story.NEW, NONE, "from", 0, 0);
        bounds.keeps(Story.NEW, NONE, "far", 0, 1, 0);
        bounds.keeps(Story.NEW, BAD, "steps", 7, 0);
        bounds.keeps(Story.NEW, BAD, "tree", 7, 0);
        bounds.keeps(Story.NEW, NONE, "event", 0, 0);
        bounds.keeps(Story.NEW, NONE, "as", 0, 0);
        bounds.keeps(Story.NEW, NONE, "right", 0);
        bounds.keeps(Story.NEW, NONE, "trace", 0);
        bounds.keeps(Story.NEW, 0, "act", 0, 0, 5);
        bounds.takes(Story.NEW, 12, "limit", 12);
        bounds.takes(Story.NEW, 0, "open");
        bounds.takes(Story.NEW, 0, "tongue");
    }

    private void tongue() {
        bounds.sentence("A TONGUE without WORDS: its number. FULL.");
        Story five = bounds.takes(RICH, 4, "tongue");
        for (int m = 0; m < 10; m++) bounds.keeps(five, NONE, "word", 4, m, -1);
        bounds.keeps(five, 23, "count", 2);
        Story six = bounds.takes(five, 5, "tongue");
        bounds.keeps(six, FULL, "tongue");
        bounds.keeps(six, 6, "count", 0);
        bounds.keeps(six.then("open"), -5, "from", 5, 0);
    }

    private void years() {
        bounds.sentence("n YEARS (1 .. 500) go by: NOW. BAD: also beyond 9999.");
        bounds.takes(bounds.takes(RICH, 31, "years", 1), 31, "count", 5);
        bounds.takes(bounds.takes(RICH, 530, "years", 500), 530, "count", 5);
        for (int n : new int[] {MIN, -500, -1, 0, 501, 9999, MAX, MAX - 29}) bounds.keeps(RICH, BAD, "years", n);
        Story late = Story.NEW.times(19, "years", 500);
        bounds.takes(late, 9999, "years", 499);
        bounds.keeps(late, BAD, "years", 500);
        Story last = late.then("years", 499);
        for (int n : new int[] {1, 500, 0, -1, MAX}) bounds.keeps(last, BAD, "years", n);
    }

    private void feed() {
        bounds.sentence("The n lowest bytes of w, the highest first, come behind THE TAPE's: how many it has. BAD: n not 1 .. 8; FULL.");
        Story one = Story.NEW.then("tongue");
        for (int n = 1; n <= 8; n++) {
            Story fed = bounds.takes(one, n, "feed", 0x6162636465666768L, n);
            bounds.reads(fed.then("coin", 0, 0), 0, 0, "abcdefgh".substring(8 - n));
        }
        Story two = bounds.takes(one.then("feed", 0x7a79L, 2), 4, "feed", 0x7a7a61627862L, 2);
        bounds.reads(two.then("coin", 0, 0), 0, 0, "zyxb");
        // A byte above 127, and of a w below 0, is a byte as others are: no letter.
        bounds.takes(one.then("feed", -1L, 1), -10, "coin", 0, 0);
        bounds.takes(one.then("feed", 0x9e9f9f9f61626364L, 4).then("feed", 0x61e1L, 2), -15, "coin", 0, 0);
        for (int n : new int[] {MIN, -1, 0, 9, MAX}) bounds.keeps(RICH, BAD, "feed", 97L, n);
        Story full = EMPTY_TAPE.fed("a".repeat(80));
        for (int n = 1; n <= 8; n++) bounds.keeps(full, FULL, "feed", 97L, n);
        for (int n : new int[] {MIN, 0, 9, MAX}) bounds.keeps(full, BAD, "feed", 97L, n);
        Story almost = Story.NEW.fed("a".repeat(79));
        bounds.keeps(almost, FULL, "feed", 97L, 2);
        Story last = bounds.takes(almost, 80, "feed", 97L, 1);
        bounds.keeps(last, 80, "count", 6);
        // Empty again, it takes 80 again.
        Story again = last.then("law");
        bounds.keeps(again, 0, "count", 6);
        bounds.takes(again.fed("b".repeat(72)), 80, "feed", 97L, 8);
    }

    private void law() {
        bounds.sentence("THE TAPE, which is empty then, is a LAW: its number; -10 less the FAULT. FULL (THE TAPE stays).");
        bounds.alike(Story.NEW, bounds.takes(Story.NEW, -10, "law"));
        Story faulty = bounds.takes(RICH, -11, "law");
        bounds.keeps(faulty, 0, "count", 6);
        bounds.keeps(faulty, 3, "count", 1);
        bounds.alike(EMPTY_TAPE, faulty);
        bounds.alike(EMPTY_TAPE, bounds.takes(EMPTY_TAPE, -10, "law"));
        bounds.alike(EMPTY_TAPE, bounds.takes(EMPTY_TAPE.fed("a>b,a>b,a>b,a>b,a>b,a>b,a>b"), -33, "law"));
        Story taken = bounds.takes(EMPTY_TAPE.fed("a>b"), 3, "law");
        bounds.keeps(taken, 0, "count", 6);
        bounds.keeps(taken, 4, "count", 1);
        // A faulty one leaves the LAWS that there are, and the number, for the next one.
        bounds.alike(taken, faulty.fed("a>b/a_b;").then("law").fed("a>b").then("law"));
        Story full = new World(World.NO_LAWS).story;
        bounds.keeps(full, FULL, "law");
        Story none = new World(World.NO_LAWS | World.NO_BYTES).story;
        Story good = none.fed("e>i");
        bounds.keeps(good, FULL, "law");
        bounds.keeps(good, 3, "count", 6);
        bounds.keeps(none, FULL, "law");
    }

    private void coin() {
        bounds.sentence(COIN);
        Story first = bounds.takes(Story.NEW.then("tongue").fed("a"), 0, "coin", 0, 0);
        bounds.keeps(first, 0, "count", 6);
        bounds.keeps(first, 1, "count", 3);
        Story second = bounds.takes(first.fed("zzzzzzzz"), 1, "coin", 0, 9);
        bounds.reads(second, 0, 9, "zzzzzzzz");
        // In place of a longer one, a shorter one; a ROOT that is gone does not come again.
        Story third = bounds.takes(second.fed("q"), 2, "coin", 0, 9);
        bounds.reads(third, 0, 9, "q");
        bounds.takes(third.then("forget", 0, 9).fed("q"), 3, "coin", 0, 9);
        Story most = Story.NEW.then("tongue");
        for (int root = 0; root < 80; root++) most = bounds.takes(most.fed("ab"), root, "coin", 0, root % 10);
        bounds.keeps(most, 80, "count", 3);
        bounds.keeps(most.fed("ab"), FULL, "coin", 0, 0);
        bounds.keeps(most, FULL, "coin", 0, 0);
        bounds.keeps(most.fed("a1"), FULL, "coin", 0, 0);
    }

    private void coinRefused() {
        bounds.sentence(COIN);
        String[] faulty = {"", "1", "a1", "abcdefg1", "abcdefghi", "abcdefgh1", "1bcdefghi", "abcdefg1i", "A", "`", "{"};
        int[] place = {0, 0, 1, 7, 8, 8, 0, 7, 0, 0, 0};
        for (int i = 0; i < faulty.length; i++) {
            bounds.alike(EMPTY_TAPE, bounds.takes(EMPTY_TAPE.fed(faulty[i]), -10 - place[i], "coin", 0, 0));
        }
        for (String text : new String[] {"", "ab", "a1", "abcdefghi"}) {
            Story fed = EMPTY_TAPE.fed(text);
            for (int t : new int[] {MIN, -1, 4, MAX}) bounds.keeps(fed, NONE, "coin", t, 0);
            for (int m : new int[] {MIN, -1, 10, MAX}) bounds.keeps(fed, NONE, "coin", 0, m);
            Story full = new World(World.NO_EVENTS | World.NO_BYTES).story.fed(text);
            bounds.keeps(full, FULL, "coin", 0, 0);
            bounds.keeps(full, NONE, "coin", 4, 0);
            bounds.keeps(full, text.length(), "count", 6);
        }
    }

    private void sound() {
        bounds.sentence("A LAW comes over a TONGUE: how many WORDS became others. NONE; FULL: EVENTS.");
        Story ten = Story.told("pa pe pi po pu pap pep pip pop pup", "-", "ta").law("p>b").law("p>p").law("V>0,C>0");
        bounds.takes(ten, 10, "sound", 0, 0);
        bounds.takes(ten, 0, "sound", 0, 1);
        bounds.takes(ten, 0, "sound", 0, 2);
        bounds.takes(ten, 0, "sound", 1, 0);
        bounds.takes(ten, 0, "sound", 2, 0);
        bounds.takes(ten.then("sound", 0, 0), 0, "sound", 0, 0);
        bounds.takes(ten.then("forget", 0, 9), 9, "sound", 0, 0);
        bounds.takes(ten.then("hole", 0, 9, true), 10, "sound", 0, 0);
        // An EVENT all the same, if no WORD became another.
        bounds.takes(ten.then("sound", 1, 0), 12, "count", 2);
        bounds.keeps(ten, NONE, "sound", 3, 0);
        bounds.keeps(ten, NONE, "sound", 0, 3);
        bounds.keeps(Story.told("pa"), NONE, "sound", 0, 0);
        Story full = new World(World.NO_EVENTS).story;
        bounds.keeps(full, FULL, "sound", 0, 0);
        bounds.keeps(full, NONE, "sound", 0, 3);
        bounds.keeps(full, NONE, "sound", 4, 0);
    }

    private void shorten() {
        bounds.sentence("A WORD is SHORT: sounds that are left. NONE; STATE: it has one; FULL.");
        Story shorter = bounds.takes(RICH, 4, "shorten", 0, 0);
        bounds.reads(shorter, 0, 0, "pate");
        bounds.reads(bounds.takes(RICH, 1, "shorten", 0, 2), 0, 2, "t");
        bounds.keeps(RICH, STATE, "shorten", 0, 5);
        bounds.keeps(RICH, NONE, "shorten", 0, 6);
        bounds.keeps(RICH, NONE, "shorten", 3, 0);
        // Whether it is a HOLE does not matter.
        bounds.takes(RICH, 4, "shorten", 2, 0);
        Story full = new World(World.NO_EVENTS).story;
        bounds.keeps(full, FULL, "shorten", 0, 0);
        bounds.keeps(full, STATE, "shorten", 0, 5);
        bounds.keeps(full, NONE, "shorten", 0, 6);
    }

    private void loan() {
        bounds.sentence("LOAN of a MEANING's WORD from a TONGUE to another one: its ROOT. NONE; BAD: one TONGUE; FULL.");
        bounds.reads(bounds.takes(RICH, 0, "loan", 0, 0, 3), 3, 0, "pater");
        bounds.reads(bounds.takes(RICH, 0, "loan", 0, 0, 1), 1, 0, "pater");
        bounds.reads(bounds.takes(RICH, 8, "loan", 9, 0, 2), 2, 9, "dent");
        // From where it came it stays; a longer one of its own goes whole.
        bounds.reads(RICH.then("loan", 0, 0, 3), 0, 0, "pater");
        bounds.reads(bounds.takes(RICH, 13, "loan", 4, 1, 0), 0, 4, "fot");
        bounds.reads(bounds.takes(RICH, 5, "loan", 5, 0, 3).then("loan", 5, 3, 1), 1, 5, "a");
        bounds.keeps(RICH, NONE, "loan", 6, 0, 1);
        bounds.keeps(RICH, NONE, "loan", 6, 0, 0);
        bounds.keeps(RICH, NONE, "loan", 0, 3, 0);
        bounds.keeps(RICH, NONE, "loan", 0, 0, 4);
        bounds.keeps(RICH, NONE, "loan", 0, 4, 4);
        bounds.keeps(RICH, BAD, "loan", 0, 0, 0);
        bounds.takes(RICH, 9, "loan", 0, 2, 0);
        Story full = new World(World.NO_EVENTS).story;
        bounds.keeps(full, FULL, "loan", 0, 0, 1);
        bounds.keeps(full, BAD, "loan", 0, 0, 0);
        bounds.keeps(full, NONE, "loan", 6, 0, 1);
    }

    private void forget() {
        bounds.sentence("FORGET: its ROOT. NONE; FULL.");
        Story gone = bounds.takes(RICH, 8, "forget", 0, 9);
        bounds.keeps(gone, NONE, "word", 0, 9, -1);
        bounds.keeps(gone, NONE, "forget", 0, 9);
        bounds.takes(RICH, 0, "forget", 0, 0);
        bounds.takes(RICH, 6, "forget", 2, 7);
        bounds.keeps(RICH, NONE, "forget", 0, 6);
        bounds.keeps(RICH, NONE, "forget", 3, 0);
        bounds.keeps(RICH, NONE, "forget", 4, 0);
        Story full = new World(World.NO_EVENTS).story;
        bounds.keeps(full, FULL, "forget", 0, 9);
        bounds.keeps(full, NONE, "forget", 0, 6);
    }

    private void split() {
        bounds.sentence("SPLIT: a TONGUE splits off, with the same WORDS: its number. NONE; FULL: TONGUES, EVENTS.");
        Story five = bounds.takes(RICH, 4, "split", 2);
        String[] same = {"feder", "meder", "du", "ekt", "fot", "e", "beb", "bek", "hu"};
        for (int m = 0; m < 9; m++) bounds.reads(five, 4, m, same[m]);
        bounds.keeps(five, NONE, "word", 4, 9, -1);
        bounds.keeps(five, 24, "count", 2);
        // What is told to be a HOLE is so of the older TONGUE; the WORDS go their own ways.
        bounds.keeps(five, 0, "cost", 0, 4, 4);
        bounds.reads(five.then("shorten", 2, 0), 4, 0, "feder");
        bounds.reads(five.then("shorten", 4, 0), 2, 0, "feder");
        Story six = bounds.takes(five, 5, "split", 3);
        for (int m = 0; m < 10; m++) bounds.keeps(six, NONE, "word", 5, m, -1);
        bounds.keeps(six, FULL, "split", 0);
        bounds.keeps(six, NONE, "split", 6);
        bounds.keeps(six, 25, "count", 2);
        bounds.keeps(RICH, NONE, "split", 4);
        bounds.keeps(RICH, NONE, "split", -1);
        Story full = new World(World.NO_EVENTS).story;
        bounds.keeps(full, FULL, "split", 0);
        bounds.keeps(full, NONE, "split", 4);
        bounds.keeps(full, 4, "count", 0);
        Story both = new World(World.NO_EVENTS | World.NO_TONGUES).story;
        bounds.keeps(both, FULL, "split", 0);
        bounds.keeps(both, NONE, "split", 6);
    }

    private void word() {
        bounds.sentence("Of a WORD (HOLES do not matter): i -1 how many sounds; else its i-th letter (0 .. 25). NONE.");
        Story story = Story.told("a z abcdefgh").then("hole", 0, 1, true);
        bounds.keeps(story, 1, "word", 0, 0, -1);
        bounds.keeps(story, 0, "word", 0, 0, 0);
        bounds.keeps(story, NONE, "word", 0, 0, 1);
        bounds.keeps(story, 1, "word", 0, 1, -1);
        bounds.keeps(story, 25, "word", 0, 1, 0);
        bounds.keeps(story, 8, "word", 0, 2, -1);
        bounds.keeps(story, 7, "word", 0, 2, 7);
        for (int i : new int[] {MIN, -2, 8, MAX}) bounds.keeps(story, NONE, "word", 0, 2, i);
        bounds.keeps(story.then("shorten", 0, 2), NONE, "word", 0, 2, 7);
    }

    private void open() {
        bounds.sentence("THE TRUTH is opened: how many CLAIMS there are. STATE: it is open.");
        bounds.keeps(bounds.takes(Story.NEW, 0, "open"), STATE, "open");
        bounds.keeps(bounds.takes(RICH, 2, "open"), STATE, "open");
        bounds.keeps(bounds.takes(new World(World.NO_CLAIMS).story, 60, "open"), STATE, "open");
        // The world goes on behind it.
        bounds.takes(RICH_OPEN, 18, "coin", 3, 3);
        bounds.takes(RICH_OPEN, 4, "split", 0);
        bounds.takes(RICH_OPEN, 35, "years", 5);
    }

    private void truth() {
        bounds.sentence("Of a WORD what 0 its ROOT, 1 whether it is a LOAN (1, 0). NONE; STATE: THE TRUTH is shut.");
        bounds.keeps(RICH_OPEN, 0, "truth", 0, 0, 0);
        bounds.keeps(RICH_OPEN, 0, "truth", 0, 0, 1);
        bounds.keeps(RICH_OPEN, 17, "truth", 1, 9, 0);
        bounds.keeps(RICH_OPEN, 6, "truth", 2, 7, 0);
        bounds.keeps(RICH_OPEN, 1, "truth", 2, 7, 1);
        // A HOLE's, too.
        bounds.keeps(RICH_OPEN, 9, "truth", 2, 0, 0);
        for (int what : new int[] {MIN, -1, 2, MAX}) {
            bounds.keeps(RICH_OPEN, NONE, "truth", 0, 0, what);
            bounds.keeps(RICH, NONE, "truth", 0, 0, what);
        }
        for (int what = 0; what < 2; what++) {
            bounds.keeps(RICH, STATE, "truth", 0, 0, what);
            bounds.keeps(RICH, NONE, "truth", 0, 6, what);
            bounds.keeps(RICH_OPEN, NONE, "truth", 0, 6, what);
        }
    }

    private void from() {
        bounds.sentence("Of a TONGUE what 0 from which it split off, 1 when (-5: it came by itself). NONE; STATE.");
        for (int what = 0; what < 2; what++) {
            for (int t : new int[] {0, 1, 3}) bounds.keeps(RICH_OPEN, -5, "from", t, what);
            for (int t = 0; t < 4; t++) bounds.keeps(RICH, STATE, "from", t, what);
            for (int t : new int[] {MIN, -1, 4, MAX}) {
                bounds.keeps(RICH, NONE, "from", t, what);
                bounds.keeps(RICH_OPEN, NONE, "from", t, what);
            }
        }
        bounds.keeps(RICH_OPEN, 1, "from", 2, 0);
        bounds.keeps(RICH_OPEN, 30, "from", 2, 1);
        for (int what : new int[] {MIN, -1, 2, MAX}) {
            bounds.keeps(RICH, NONE, "from", 2, what);
            bounds.keeps(RICH_OPEN, NONE, "from", 2, what);
        }
        Story chain = Story.NEW.then("tongue").then("split", 0);
        for (int t = 1; t < 5; t++) chain = chain.then("years", t).then("split", t);
        chain = chain.then("open");
        for (int t = 1; t < 6; t++) bounds.keeps(chain, t - 1, "from", t, 0);
        int[] when = {-5, 0, 1, 3, 6, 10};
        for (int t = 0; t < 6; t++) bounds.keeps(chain, when[t], "from", t, 1);
    }

    private void event() {
        bounds.sentence("Of EVENT i what 0 KIND, 1 YEAR, 2 TONGUE (of a SPLIT that which split off), 3 LAW (SOUND; else -5), 4 MEANING (of SOUND, SPLIT -5). NONE; STATE.");
        int[][] want = {{0, 6, 0, 0, -5, 0}, {17, 6, 0, 1, -5, 9}, {18, 3, 30, 2, -5, -5}, {19, 2, 30, 2, -5, 7},
            {20, 5, 30, 2, -5, 9}, {21, 1, 30, 2, 2, -5}, {22, 4, 30, 2, -5, 8}};
        for (int[] each : want) {
            for (int what = 0; what < 5; what++) {
                bounds.keeps(RICH_OPEN, each[1 + what], "event", each[0], what);
                bounds.keeps(RICH, STATE, "event", each[0], what);
            }
            for (int what : new int[] {MIN, -1, 5, MAX}) {
                bounds.keeps(RICH_OPEN, NONE, "event", each[0], what);
                bounds.keeps(RICH, NONE, "event", each[0], what);
            }
        }
        for (int i : new int[] {MIN, -1, 23, MAX}) {
            bounds.keeps(RICH_OPEN, NONE, "event", i, 0);
            bounds.keeps(RICH, NONE, "event", i, 0);
        }
        // LAW 0 and MEANING 0 are told, and not taken for none.
        Story last = new World(World.NO_EVENTS).story.then("open");
        bounds.keeps(last, 0, "event", 79, 3);
        bounds.keeps(last, NONE, "event", 80, 3);
        bounds.keeps(Story.told("pa").then("shorten", 0, 0).then("open"), 0, "event", 1, 4);
    }

    private void limit() {
        bounds.sentence("LIMIT: what it was. BAD.");
        Story none = bounds.takes(Story.NEW, 12, "limit", 0);
        Story most = bounds.takes(none, 0, "limit", 60);
        for (int n : new int[] {MIN, -1, 61, MAX}) {
            bounds.keeps(Story.NEW, BAD, "limit", n);
            bounds.keeps(most, BAD, "limit", n);
            bounds.keeps(RICH, BAD, "limit", n);
        }
        bounds.takes(most, 60, "limit", 60);
        bounds.takes(bounds.takes(RICH, 9, "limit", 1), 1, "limit", 59);
    }

    private void hole() {
        bounds.sentence("A HOLE of a TONGUE and MEANING is (so), or is not: whether it was. NONE: tongue, meaning.");
        for (int t = 0; t < 4; t += 3) {
            for (int m = 0; m < 10; m += 9) {
                Story so = bounds.takes(RICH, 0, "hole", t, m, true);
                bounds.alike(so, bounds.takes(so, 1, "hole", t, m, true));
                bounds.alike(RICH, bounds.takes(so, 1, "hole", t, m, false));
                bounds.keeps(RICH, 0, "hole", t, m, false);
            }
        }
        bounds.takes(RICH, 1, "hole", 1, 8, false);
        for (boolean so : new boolean[] {true, false}) {
            for (int t : new int[] {MIN, -1, 4, MAX}) bounds.keeps(RICH, NONE, "hole", t, 8, so);
            for (int m : new int[] {MIN, -1, 10, MAX}) bounds.keeps(RICH, NONE, "hole", 1, m, so);
        }
        // Where there is no WORD, too; and it is there when one comes.
        Story early = bounds.takes(RICH, 0, "hole", 3, 3, true).then("coin", 3, 3);
        bounds.keeps(early, NONE, "cost", 3, 3, 3);
        bounds.takes(early, 1, "hole", 3, 3, false);
    }
}
