/** Promises 19 to 38, the second machine, CLAIMS and ACTS: each by its first and last numbers, empty and full. */
final class MachineBounds {
    private static final int NONE = Bounds.NONE, BAD = Bounds.BAD, STATE = Bounds.STATE, FULL = Bounds.FULL;
    private static final int MIN = Bounds.MIN, MAX = Bounds.MAX;
    private static final int[] NO_WHAT = {MIN, -1, 2, MAX};
    private static final Story RICH = new World(0).story;
    private static final Story RICH_OPEN = new World(World.OPEN).story;
    private static final Story FULL_LAWS = new World(World.NO_LAWS).story;

    private final Bounds bounds;

    MachineBounds(Bounds bounds) {
        this.bounds = bounds;
    }

    void ask() {
        cost();
        way();
        kin();
        set();
        odds();
        matches();
        far();
        borrowed();
        old();
        best();
        feeds();
        steps();
        tree();
        claim();
        right();
        sure();
        act();
        trace();
        as();
        count();
    }

    /** No LIST has WORDS of both there: no such TONGUE or MEANING, no WORD, a HOLE. */
    private void asksForBoth(String name, Object... behind) {
        int[][] none = {{0, -1, 0}, {0, 0, -1}, {0, 4, 0}, {0, 0, 4}, {-1, 0, 1}, {10, 0, 1}, {6, 0, 1}, {6, 1, 0},
            {8, 0, 1}, {8, 1, 0}, {0, 2, 1}, {0, 1, 2}, {0, 3, 0}, {0, 0, 3}, {8, 1, 1}, {6, 0, 0}, {0, 3, 3}};
        for (int[] each : none) {
            Object[] given = new Object[3 + behind.length];
            for (int i = 0; i < 3; i++) given[i] = each[i];
            System.arraycopy(behind, 0, given, 3, behind.length);
            bounds.keeps(RICH, NONE, name, given);
            bounds.keeps(RICH_OPEN, NONE, name, given);
        }
    }

    private void cost() {
        bounds.sentence("COST of a MEANING's WORDS of two TONGUES (or of one). NONE (LISTS without it, too, as in all calls from here on that ask for WORDS of LISTS).");
        bounds.keeps(RICH, 2, "cost", 0, 0, 1);
        bounds.keeps(RICH, 3, "cost", 9, 0, 1);
        bounds.keeps(RICH, 0, "cost", 0, 0, 0);
        bounds.keeps(RICH, 0, "cost", 9, 1, 1);
        asksForBoth("cost");
    }

    private void way() {
        bounds.sentence("THE WAY: i -1 how many places; else 100 times the letter of a's WORD (1 .. 26; 0 nothing), and that of b's. NONE.");
        Story ends = Story.told("az a aaaaaaaa", "za z bbbbbbbb");
        // Side by side both would cost 6; a alone, z beside z, a alone cost 4.
        int[] way = {100, 2626, 1};
        bounds.keeps(ends, 3, "way", 0, 0, 1, -1);
        for (int i = 0; i < 3; i++) bounds.keeps(ends, way[i], "way", 0, 0, 1, i);
        bounds.keeps(ends, NONE, "way", 0, 0, 1, 3);
        bounds.keeps(ends, NONE, "way", 0, 0, 1, -2);
        bounds.keeps(ends, 1, "way", 1, 0, 1, -1);
        bounds.keeps(ends, 126, "way", 1, 0, 1, 0);
        bounds.keeps(ends, 2601, "way", 1, 1, 0, 0);
        bounds.keeps(ends, NONE, "way", 1, 0, 1, 1);
        bounds.keeps(ends, 8, "way", 2, 0, 1, -1);
        bounds.keeps(ends, 102, "way", 2, 0, 1, 7);
        bounds.keeps(ends, NONE, "way", 2, 0, 1, 8);
        bounds.keeps(ends, 101, "way", 2, 0, 0, 7);
        for (int i : new int[] {MIN, -2, 16, MAX}) bounds.keeps(ends, NONE, "way", 2, 0, 1, i);
        asksForBoth("way", -1);
    }

    private void kin() {
        bounds.sentence("Whether they are KIN: 1, 0. NONE; BAD: one TONGUE.");
        bounds.keeps(RICH, 1, "kin", 0, 0, 1);
        bounds.keeps(RICH, 1, "kin", 9, 1, 0);
        // ped and fot cost 3: 30 is more than 9 times 3; okto and ekt cost 3, too, but 9 times 4 is more.
        bounds.keeps(RICH, 0, "kin", 4, 0, 1);
        bounds.keeps(RICH, 1, "kin", 3, 0, 2);
        bounds.keeps(RICH, BAD, "kin", 0, 0, 0);
        bounds.keeps(RICH, BAD, "kin", 9, 1, 1);
        asksForBoth("kin");
    }

    private void set() {
        bounds.sentence("The KIN SET of a TONGUE's WORD, as bits of TONGUES. NONE.");
        bounds.keeps(RICH, 3, "set", 0, 0);
        bounds.keeps(RICH, 7, "set", 1, 2);
        bounds.keeps(RICH, 5, "set", 7, 0);
        bounds.keeps(RICH, 6, "set", 6, 1);
        Story last = Story.NEW.times(6, "tongue").coin(5, 9, "a");
        bounds.keeps(last, 32, "set", 9, 5);
        for (int t = 0; t < 5; t++) bounds.keeps(last, NONE, "set", 9, t);
        for (int t : new int[] {MIN, -1, 6, MAX}) bounds.keeps(last, NONE, "set", 9, t);
        for (int m : new int[] {MIN, -1, 8, 10, MAX}) bounds.keeps(last, NONE, "set", m, 5);
        bounds.keeps(RICH, NONE, "set", 8, 1);
    }

    private void odds() {
        bounds.sentence("ODDS: what 0 how many would be KIN, 1 of how many. NONE.");
        Story story = Story.told("pa", "pa po te").then("limit", 5);
        bounds.keeps(story, 1, "odds", 0, 0, 1, 0);
        bounds.keeps(story, 2, "odds", 0, 0, 1, 1);
        for (int what : NO_WHAT) bounds.keeps(story, NONE, "odds", 0, 0, 1, what);
        for (int t : new int[] {MIN, -1, 2, MAX}) {
            bounds.keeps(story, NONE, "odds", 0, t, 1, 0);
            bounds.keeps(story, NONE, "odds", 0, 0, t, 0);
        }
        for (int m : new int[] {MIN, -1, 1, 10, MAX}) bounds.keeps(story, NONE, "odds", m, 0, 1, 0);
        bounds.keeps(story.then("hole", 0, 0, true), NONE, "odds", 0, 0, 1, 1);
        // Of the second TONGUE no WORD of that MEANING is asked for.
        bounds.keeps(story, 1, "odds", 2, 1, 0, 1);
        bounds.keeps(story, 0, "odds", 2, 1, 0, 0);
        // Both may be one TONGUE.
        bounds.keeps(story, 1, "odds", 0, 1, 1, 0);
    }

    private void matches() {
        bounds.sentence("MATCHES of x and y (0 .. 26; not both 0). NONE: tongues; BAD: one TONGUE, x, y.");
        Story story = Story.told("az za", "az z").then("limit", 60);
        bounds.keeps(story, 1, "matches", 0, 1, 1, 1);
        bounds.keeps(story, 2, "matches", 0, 1, 26, 26);
        bounds.keeps(story, 1, "matches", 0, 1, 1, 0);
        bounds.keeps(story, 0, "matches", 0, 1, 0, 1);
        bounds.keeps(story, 1, "matches", 1, 0, 0, 1);
        bounds.keeps(story, 0, "matches", 0, 1, 26, 0);
        bounds.keeps(story, 0, "matches", 0, 1, 0, 26);
        bounds.keeps(story, BAD, "matches", 0, 1, 0, 0);
        for (int sound : new int[] {MIN, -1, 27, MAX}) {
            bounds.keeps(story, BAD, "matches", 0, 1, sound, 1);
            bounds.keeps(story, BAD, "matches", 0, 1, 1, sound);
            bounds.keeps(story, BAD, "matches", 0, 1, sound, -sound);
            bounds.keeps(story, BAD, "matches", 0, 1, sound, 0);
            bounds.keeps(story, NONE, "matches", 0, 2, sound, 1);
        }
        bounds.keeps(story, BAD, "matches", 1, 1, 1, 1);
        for (int t : new int[] {MIN, -1, 2, MAX}) {
            bounds.keeps(story, NONE, "matches", t, 0, 1, 1);
            bounds.keeps(story, NONE, "matches", 0, t, 1, 1);
            bounds.keeps(story, NONE, "matches", t, t, 0, 0);
        }
    }

    private void far() {
        bounds.sentence("FAR: what 0 COSTS, 1 how many. NONE; BAD: one TONGUE.");
        // pater fader 2, mater mader 1, tu du 1, okto akt 3, ped fot 3, a a 0, dent tand 3.
        bounds.keeps(RICH, 13, "far", 0, 1, 0);
        bounds.keeps(RICH, 7, "far", 0, 1, 1);
        bounds.keeps(RICH, 0, "far", 0, 3, 0);
        bounds.keeps(RICH, 0, "far", 3, 0, 1);
        bounds.keeps(RICH, BAD, "far", 0, 0, 0);
        bounds.keeps(RICH, BAD, "far", 3, 3, 1);
        for (int what : NO_WHAT) {
            bounds.keeps(RICH, NONE, "far", 0, 1, what);
            bounds.keeps(RICH, NONE, "far", 0, 0, what);
        }
        for (int t : new int[] {MIN, -1, 4, MAX}) {
            bounds.keeps(RICH, NONE, "far", t, 0, 0);
            bounds.keeps(RICH, NONE, "far", 0, t, 1);
            bounds.keeps(RICH, NONE, "far", t, t, 0);
        }
    }

    private void borrowed() {
        bounds.sentence("Whether a TONGUE's WORD of a MEANING seems to be a LOAN from another one: 1, 0. NONE; BAD: one TONGUE.");
        Story story = Story.told("pa aaa k", "pa bbb k");
        bounds.keeps(story, 1, "borrowed", 0, 0, 1);
        bounds.keeps(story, 1, "borrowed", 0, 1, 0);
        bounds.keeps(story, 0, "borrowed", 1, 0, 1);
        bounds.keeps(story, BAD, "borrowed", 0, 0, 0);
        bounds.keeps(RICH, BAD, "borrowed", 9, 1, 1);
        asksForBoth("borrowed");
        // It knows LISTS alone: a true LOAN whose others are near does not seem one.
        bounds.keeps(Story.told("pa te ki", "po te ki").then("loan", 0, 0, 1).then("open"), 0, "borrowed", 0, 1, 0);
    }

    private void old() {
        bounds.sentence("OLD FORM: what 0 whose WORD, 1 its COSTS with the others together, 2 UNSURE; -5: no LIST has one. NONE: meaning, what.");
        // Of du, tu and du those two cost 1 together.
        int[] want = {1, 1, 2};
        int[] alone = {2, 0, 1};
        for (int what = 0; what < 3; what++) {
            bounds.keeps(RICH, want[what], "old", 2, what);
            bounds.keeps(Story.NEW, -5, "old", 0, what);
            bounds.keeps(Story.NEW, -5, "old", 9, what);
            bounds.keeps(RICH.then("hole", 1, 6, true), alone[what], "old", 6, what);
            bounds.keeps(RICH.then("hole", 1, 6, true).then("hole", 2, 6, true), -5, "old", 6, what);
            for (int m : new int[] {MIN, -1, 10, MAX}) {
                bounds.keeps(RICH, NONE, "old", m, what);
                bounds.keeps(Story.NEW, NONE, "old", m, what);
            }
        }
        for (int what : new int[] {MIN, -1, 3, MAX}) {
            bounds.keeps(RICH, NONE, "old", 2, what);
            bounds.keeps(Story.NEW, NONE, "old", 0, what);
        }
        Story last = Story.NEW.times(6, "tongue").coin(5, 9, "a");
        bounds.keeps(last, 5, "old", 9, 0);
        bounds.keeps(last, 0, "old", 9, 1);
        bounds.keeps(last, 1, "old", 9, 2);
    }

    private void best() {
        bounds.sentence("BEST of the LAWS (bits) from a TONGUE to another one: i -1 how many MEANINGS, -2 EXCEPTIONS; else the i-th LAW. NONE: tongues, i below -2; BAD: one TONGUE, laws (of none such, none, more than 4); NONE: no i-th.");
        // p>f/#_ and t>d/V_ make fader, mader; a alone is the same. Not tu, okto, ped, dent.
        bounds.keeps(RICH, 3, "best", 0, 1, 1, -1);
        bounds.keeps(RICH, 4 | 8 | 16 | 512, "best", 0, 1, 1, -2);
        bounds.keeps(RICH, 0, "best", 0, 1, 1, 0);
        bounds.keeps(RICH, NONE, "best", 0, 1, 1, 1);
        bounds.keeps(RICH, 2, "best", 0, 1, 7, 2);
        bounds.keeps(RICH, NONE, "best", 0, 1, 7, 3);
        for (int i : new int[] {MIN, -3}) {
            bounds.keeps(RICH, NONE, "best", 0, 1, 1, i);
            bounds.keeps(RICH, NONE, "best", 0, 0, 0, i);
        }
        for (int laws : new int[] {0, 8, 9, 4096, -1, MIN, MIN | 1, MAX}) {
            for (int i : new int[] {-2, -1, 0, 5, MAX}) bounds.keeps(RICH, BAD, "best", 0, 1, laws, i);
        }
        bounds.keeps(RICH, BAD, "best", 1, 1, 1, 5);
        for (int t : new int[] {MIN, -1, 4, MAX}) {
            bounds.keeps(RICH, NONE, "best", t, 0, 1, -1);
            bounds.keeps(RICH, NONE, "best", 0, t, 1, -1);
            bounds.keeps(RICH, NONE, "best", t, t, 0, -1);
        }
        bounds.keeps(FULL_LAWS, 11, "best", 0, 1, 15 << 8, 3);
        bounds.keeps(FULL_LAWS, NONE, "best", 0, 1, 15 << 8, 4);
        for (int laws : new int[] {31, 31 << 7, 4095, 1 << 12, 15 << 9}) bounds.keeps(FULL_LAWS, BAD, "best", 0, 1, laws, -1);
    }

    private void feeds() {
        bounds.sentence("Whether two LAWS FEED one another in a TONGUE: 1, 0. NONE; BAD: one LAW.");
        Story two = Story.told("pa").law("a>e").law("e>i");
        bounds.keeps(two, 1, "feeds", 0, 0, 1);
        bounds.keeps(two, 1, "feeds", 0, 1, 0);
        Story four = new World(World.NO_BYTES).story.law("e>i").fed("ab");
        bounds.keeps(four, 1, "feeds", 0, 2, 3);
        bounds.keeps(four, 0, "feeds", 3, 2, 3);
        bounds.keeps(FULL_LAWS, 0, "feeds", 0, 0, 11);
        bounds.keeps(FULL_LAWS, 0, "feeds", 3, 11, 0);
        for (int law = 0; law < 12; law++) bounds.keeps(FULL_LAWS, BAD, "feeds", 0, law, law);
        for (int law : new int[] {MIN, -1, 12, MAX}) {
            bounds.keeps(FULL_LAWS, NONE, "feeds", 0, law, 0);
            bounds.keeps(FULL_LAWS, NONE, "feeds", 0, 0, law);
            bounds.keeps(FULL_LAWS, NONE, "feeds", 0, law, law);
        }
        for (int t : new int[] {MIN, -1, 4, MAX}) {
            bounds.keeps(FULL_LAWS, NONE, "feeds", t, 0, 1);
            bounds.keeps(FULL_LAWS, NONE, "feeds", t, 1, 1);
        }
    }

    private void steps() {
        bounds.sentence("STEPS of a TREE of TONGUES (bits) by its number. BAD: bits, fewer than 3, number.");
        Story six = Story.told("p", "t", "k", "p", "t", "k").then("limit", 0);
        bounds.keeps(six, 2, "steps", 7, 0);
        bounds.keeps(six, 2, "steps", 56, 0);
        bounds.keeps(six, 2, "steps", 15, 2);
        // The last TREE has 4 and 5 together, then 3, then 2: like ones stand apart, and four changes are due.
        bounds.keeps(six, 4, "steps", 63, 104);
        for (int bits : new int[] {0, 1, 32, 3, 48, 64, 65, 71, 127, -1, MIN, MIN | 7, MAX}) {
            for (int number : new int[] {-1, 0, 1}) bounds.keeps(six, BAD, "steps", bits, number);
        }
        // Of three TONGUES alone there is no fourth one's bit.
        Story three = Story.told("p", "t", "k").then("limit", 0);
        bounds.keeps(three, 2, "steps", 7, 0);
        for (int bits : new int[] {8, 11, 15, 14}) bounds.keeps(three, BAD, "steps", bits, 0);
    }

    private void tree() {
        bounds.sentence("BEST of TREES: what 0 its number, 1 STEPS, 2 RIVALS. BAD likewise; NONE: what.");
        Story six = Story.told("p", "t", "k", "p", "t", "k").then("limit", 0);
        int[] want = {0, 2, 1};
        for (int what = 0; what < 3; what++) bounds.keeps(six, want[what], "tree", 7, what);
        for (int what : new int[] {MIN, -1, 3, MAX}) {
            bounds.keeps(six, NONE, "tree", 7, what);
            bounds.keeps(six, NONE, "tree", 63, what);
            bounds.keeps(six, BAD, "tree", 3, what);
        }
        for (int bits : new int[] {0, 1, 32, 3, 48, 64, 65, 71, 127, -1, MIN, MIN | 7, MAX}) {
            for (int what = 0; what < 3; what++) bounds.keeps(six, BAD, "tree", bits, what);
        }
        Story three = Story.told("p", "t", "k").then("limit", 0);
        for (int bits : new int[] {8, 11, 15, 14}) bounds.keeps(three, BAD, "tree", bits, 0);
    }

    private void claim() {
        bounds.sentence("A CLAIM: its number. NONE (LISTS without a WORD, too); BAD: one TONGUE, sure; STATE: THE TRUTH is open; FULL.");
        bounds.takes(RICH, 2, "claim", 0, 0, 1, true, 0);
        bounds.takes(RICH, 2, "claim", 9, 1, 0, false, 10);
        asksForBoth("claim", true, 5);
        asksForBoth("claim", false, 11);
        Story full = new World(World.NO_CLAIMS).story;
        Story fullOpen = full.then("open");
        bounds.keeps(full, FULL, "claim", 0, 0, 1, true, 5);
        bounds.keeps(fullOpen, STATE, "claim", 0, 0, 1, true, 5);
        bounds.keeps(RICH_OPEN, STATE, "claim", 0, 0, 1, true, 5);
        for (Story story : new Story[] {RICH, RICH_OPEN, full, fullOpen}) {
            bounds.keeps(story, BAD, "claim", 0, 0, 0, true, 5);
            for (int sure : new int[] {MIN, -1, 11, MAX}) bounds.keeps(story, BAD, "claim", 0, 0, 1, true, sure);
            bounds.keeps(story, NONE, "claim", 6, 0, 0, true, 11);
        }
    }

    private void right() {
        bounds.sentence("Whether a CLAIM is RIGHT: 1, 0. NONE; STATE: THE TRUTH is shut.");
        bounds.keeps(RICH_OPEN, 0, "right", 0);
        bounds.keeps(RICH_OPEN, 1, "right", 1);
        bounds.keeps(RICH, STATE, "right", 0);
        bounds.keeps(RICH, STATE, "right", 1);
        for (int claim : new int[] {MIN, -1, 2, MAX}) {
            bounds.keeps(RICH, NONE, "right", claim);
            bounds.keeps(RICH_OPEN, NONE, "right", claim);
        }
        Story full = new World(World.NO_CLAIMS).story;
        bounds.keeps(full, STATE, "right", 59);
        bounds.keeps(full, NONE, "right", 60);
        bounds.keeps(full.then("open"), 0, "right", 59);
    }

    private void sure() {
        bounds.sentence("CLAIMS that were so sure: what 0 how many, 1 how many of them are RIGHT. NONE: what; BAD: sure; STATE: what 1, THE TRUTH is shut.");
        Story two = Story.told("pa", "pa").then("claim", 0, 0, 1, false, 0).then("claim", 0, 0, 1, true, 10)
            .then("claim", 0, 0, 1, false, 10);
        Story open = two.then("open");
        for (int sure = 0; sure <= 10; sure++) {
            bounds.keeps(two, sure == 0 ? 1 : sure == 10 ? 2 : 0, "sure", sure, 0);
            bounds.keeps(open, sure == 0 ? 1 : sure == 10 ? 2 : 0, "sure", sure, 0);
            bounds.keeps(two, STATE, "sure", sure, 1);
            bounds.keeps(open, sure == 0 || sure == 10 ? 1 : 0, "sure", sure, 1);
        }
        for (Story story : new Story[] {two, open}) {
            for (int sure : new int[] {MIN, -1, 11, MAX}) {
                bounds.keeps(story, BAD, "sure", sure, 0);
                bounds.keeps(story, BAD, "sure", sure, 1);
                for (int what : NO_WHAT) bounds.keeps(story, NONE, "sure", sure, what);
            }
            for (int what : NO_WHAT) bounds.keeps(story, NONE, "sure", 10, what);
        }
        Story full = new World(World.NO_CLAIMS).story;
        bounds.keeps(full, 58, "sure", 10, 0);
        bounds.keeps(full.then("open"), 0, "sure", 10, 1);
        bounds.keeps(full.then("open"), 1, "sure", 3, 1);
    }

    private void act() {
        bounds.sentence("An ACT (0 tells, 1 leads, 2 marks) of EVENT i with x. 0, and no TRACE then: no such EVENT, act.");
        Story acted = PartsBounds.EVENTFUL.then("act", 4, 2, 4);
        bounds.takes(acted, 7, "count", 7);
        for (int i : new int[] {MIN, -1, 6, MAX}) {
            for (int act = 0; act < 3; act++) noTrace(acted, i, act);
        }
        for (int act : new int[] {MIN, -1, 3, MAX}) {
            for (int i = 0; i < 6; i++) noTrace(acted, i, act);
        }
        noTrace(acted, 6, 3);
        bounds.keeps(PartsBounds.EVENTFUL, 0, "act", 6, 0, 5);
        bounds.takes(acted, 5, "act", 0, 0, 5);
        bounds.takes(acted, 15, "act", 5, 0, 5);
        // Whether THE TRUTH is shut does not matter; and the last EVENT that there can be has its ACTS.
        bounds.takes(acted.then("open"), 15, "act", 5, 0, 5);
        Story last = new World(World.NO_EVENTS).story;
        bounds.takes(last, 94, "act", 79, 0, 5);
        noTrace(last, 80, 0);
    }

    /** It answers 0 and takes THE TRACE away, and nothing else: as if none had ever been. */
    private void noTrace(Story acted, int i, int act) {
        Story none = bounds.takes(acted, 0, "act", i, act, 5);
        bounds.keeps(none, 0, "count", 7);
        for (int place = 0; place < 7; place++) bounds.keeps(none, NONE, "trace", place);
        if (acted.size() == PartsBounds.EVENTFUL.size() + 1) bounds.alike(PartsBounds.EVENTFUL, none);
    }

    private void trace() {
        bounds.sentence("THE TRACE's i-th body. NONE.");
        for (int i : new int[] {MIN, -1, 0, 1, 19, 20, MAX}) bounds.keeps(PartsBounds.EVENTFUL, NONE, "trace", i);
        Story longest = PartsBounds.EVENTFUL.then("act", 4, 2, 4);
        bounds.keeps(longest, 3, "trace", 0);
        bounds.keeps(longest, 1, "trace", 6);
        for (int i : new int[] {MIN, -1, 7, 19, 20, MAX}) bounds.keeps(longest, NONE, "trace", i);
        Story shortest = longest.then("act", 0, 0, 4);
        bounds.keeps(shortest, 1, "trace", 0);
        bounds.keeps(shortest, NONE, "trace", 1);
    }

    private void as() {
        bounds.sentence("An EVENT taken for a KIND k (0 .. 6), or one under that: its YEAR. NONE: event, k; -6: it is of another KIND.");
        Story story = PartsBounds.EVENTFUL;
        bounds.keeps(story, 0, "as", 0, 0);
        bounds.keeps(story, 0, "as", 0, 6);
        bounds.keeps(story, 10, "as", 5, 0);
        bounds.keeps(story, -6, "as", 5, 6);
        // LOAN is none of the KINDS under it, nor SOUND SHORT, nor is any EVENT but by its KIND.
        for (int k : new int[] {1, 3, 4, 5, 6}) bounds.keeps(story, -6, "as", 2, k);
        for (int k : new int[] {2, 3, 4, 5, 6}) bounds.keeps(story, -6, "as", 1, k);
        for (int i : new int[] {MIN, -1, 6, MAX}) {
            for (int k = -1; k < 8; k++) bounds.keeps(story, NONE, "as", i, k);
        }
        for (int k : new int[] {MIN, -1, 7, MAX}) {
            for (int i = 0; i < 6; i++) bounds.keeps(story, NONE, "as", i, k);
        }
        Story last = new World(World.NO_EVENTS).story;
        bounds.keeps(last, 30, "as", 79, 1);
        bounds.keeps(last, NONE, "as", 80, 1);
    }

    private void count() {
        bounds.sentence("0 TONGUES, 1 LAWS, 2 EVENTS, 3 ROOTS, 4 CLAIMS, 5 NOW, 6 bytes of THE TAPE, 7 bodies that ran in the latest act(). NONE.");
        int[] want = {4, 3, 23, 18, 2, 30, 2, 6};
        int[] full = {6, 12, 80, 18, 60, 30, 2, 6};
        Story most = new World(31).story;
        for (int what = 0; what < 8; what++) {
            bounds.keeps(Story.NEW, 0, "count", what);
            bounds.keeps(RICH, want[what], "count", what);
            bounds.keeps(most, full[what], "count", what);
        }
        for (int what : new int[] {MIN, -1, 8, MAX}) {
            bounds.keeps(Story.NEW, NONE, "count", what);
            bounds.keeps(RICH, NONE, "count", what);
        }
    }
}
