/** The sentences of the parts marked ==== 2 to ==== 4: EVENTS and ACTS, LISTS, ORDERS, TREES and CLAIMS. */
final class PartsBounds {
    private static final int NONE = Bounds.NONE, BAD = Bounds.BAD, STATE = Bounds.STATE, FULL = Bounds.FULL;
    private static final int MIN = Bounds.MIN, MAX = Bounds.MAX;
    /** EVENTS 0 COIN (YEAR 0), then, of YEAR 10, 1 SOUND, 2 LOAN, 3 SPLIT, 4 SHORT, 5 FORGET. */
    static final Story EVENTFUL = Story.told("pata", "-").law("p>b").then("years", 10).then("sound", 0, 0)
        .then("loan", 0, 0, 1).then("split", 0).then("shorten", 0, 0).then("forget", 1, 0);

    private final Bounds bounds;

    PartsBounds(Bounds bounds) {
        this.bounds = bounds;
    }

    void ask() {
        kinds();
        shortened();
        rootsAndLoans();
        wrapping();
        lookUp();
        trace();
        holes();
        cost();
        way();
        kin();
        kinSets();
        odds();
        matches();
        far();
        loans();
        oldForm();
        orders();
        feed();
        trees();
        steps();
        bestTree();
        claims();
        right();
    }

    private void kinds() {
        bounds.sentence("==== 2 EVENTS of KINDS, all told with their YEAR: 0 EVENT; 1 SOUND (a LAW came over a TONGUE: all its WORDS), 2 LOAN (a WORD came from another TONGUE, in place of its own), 3 SPLIT, all under EVENT; 4 SHORT (the last sound of a WORD of two or more was lost) under SOUND; 5 FORGET (a WORD went) under LOAN; 6 COIN (a new WORD, of a new ROOT) under LOAN.");
        Story open = EVENTFUL.then("open");
        int[] kind = {6, 1, 2, 3, 4, 5};
        int[] above = {-1, 0, 0, 0, 1, 2, 2};
        for (int i = 0; i < 6; i++) {
            int year = i == 0 ? 0 : 10;
            bounds.keeps(open, kind[i], "event", i, 0);
            bounds.keeps(open, year, "event", i, 1);
            for (int k = 0; k < 7; k++) {
                boolean under = k == kind[i] || k == above[kind[i]] || k == 0;
                bounds.keeps(EVENTFUL, under ? year : -6, "as", i, k);
            }
        }
        // All WORDS of the TONGUE and no other's; a LOAN in place of its own; a new ROOT, in place of its own, too.
        Story all = Story.told("pa pe pi po pu pap pep pip pop pup", "pa").law("p>b");
        Story after = bounds.takes(all, 10, "sound", 0, 0);
        bounds.reads(after, 0, 0, "ba");
        bounds.reads(after, 0, 9, "bub");
        bounds.reads(after, 1, 0, "pa");
        bounds.reads(bounds.takes(all, 9, "loan", 9, 0, 1), 1, 9, "pup");
        bounds.reads(bounds.takes(after, 0, "loan", 0, 0, 1), 1, 0, "ba");
        bounds.reads(bounds.takes(after.fed("z"), 11, "coin", 1, 0), 1, 0, "z");
        bounds.takes(bounds.takes(all, 10, "forget", 1, 0), NONE, "word", 1, 0, -1);
    }

    private void shortened() {
        bounds.sentence("4 SHORT (the last sound of a WORD of two or more was lost) under SOUND;");
        Story story = Story.told("abcdefgh");
        for (int left = 7; left >= 1; left--) {
            story = bounds.takes(story, left, "shorten", 0, 0);
            bounds.reads(story, 0, 0, "abcdefgh".substring(0, left));
        }
        bounds.keeps(story, STATE, "shorten", 0, 0);
        bounds.keeps(story, 8, "count", 2);
    }

    private void rootsAndLoans() {
        bounds.sentence("A LOAN has the ROOT of the WORD that it is of; WORDS that a TONGUE has as it splits off, too (whether each is a LOAN stays with it).");
        Story story = Story.told("pa te", "ki", "-").then("loan", 0, 1, 0).then("loan", 0, 0, 2).then("split", 0)
            .then("loan", 1, 3, 1).then("forget", 0, 1).then("loan", 1, 1, 0).then("open");
        int[][] root = {{2, 1}, {2, 1}, {2, -1}, {2, 1}};
        int[][] loan = {{1, 1}, {0, 1}, {1, -1}, {1, 0}};
        for (int t = 0; t < 4; t++) {
            for (int m = 0; m < 2; m++) {
                bounds.keeps(story, root[t][m], "truth", t, m, 0);
                bounds.keeps(story, loan[t][m], "truth", t, m, 1);
            }
        }
        // A new WORD in place of a LOAN is none; a LAW and a lost sound leave ROOT and LOAN as they are.
        Story later = story.coin(0, 0, "ku").law("k>g").then("sound", 3, 0).then("shorten", 3, 0);
        bounds.reads(later, 3, 0, "g");
        bounds.keeps(later, 2, "truth", 3, 0, 0);
        bounds.keeps(later, 1, "truth", 3, 0, 1);
        bounds.keeps(later, 3, "truth", 0, 0, 0);
        bounds.keeps(later, 0, "truth", 0, 0, 1);
    }

    /** Every sum, difference, product and minus of a BODY goes over the edge of ints once. */
    private void wrapping() {
        bounds.sentence("ACTS of an EVENT with x (ints, wrapping): tells, leads, marks; i its number, y its YEAR.");
        bounds.takes(EVENTFUL, MAX, "act", 0, 0, MAX);
        bounds.takes(EVENTFUL, MIN + 2, "act", 3, 0, MAX);
        bounds.takes(EVENTFUL, MAX, "act", 3, 1, MIN + 6);
        bounds.takes(EVENTFUL, MIN, "act", 3, 1, MIN + 7);
        // 2^30 twice is 2^31, which is MIN; and MIN with a minus is MIN again.
        bounds.takes(EVENTFUL, MIN, "act", 3, 2, (1 << 30) + 7);
        bounds.takes(EVENTFUL, MIN + 2, "act", 3, 2, (1 << 30) + 6);
        bounds.takes(EVENTFUL, 2, "act", 3, 2, MAX + 7);
        bounds.takes(EVENTFUL, -(1 << 30) + 1, "act", 1, 0, 1 << 30);
        bounds.takes(EVENTFUL, MIN + 1, "act", 1, 0, MIN);
        bounds.takes(EVENTFUL, MAX - 7 ^ 7, "act", 2, 1, MIN);
        // x - 1 is MAX; MAX times 3 is MAX - 2; and 4 - 10 + 10.
        bounds.takes(EVENTFUL, MIN + 1, "act", 4, 1, MIN);
        // Times 3 it is MAX + 6 (for 3 times 0xaaaaaaab is 1): so MAX comes from above, and tells(2), 10, goes over it.
        int third = 0xaaaaaaab * (MAX + 6);
        bounds.takes(EVENTFUL, MIN + 9, "act", 4, 1, third + 1);
        bounds.takes(EVENTFUL, MIN + 4, "act", 5, 0, MAX - 5);
        bounds.takes(EVENTFUL, MAX, "act", 5, 0, MAX - 10);
        // x + 1 is MIN; MIN ^ 7 twice is 14; 14 ^ 3 is 13.
        bounds.takes(EVENTFUL, 13, "act", 0, 2, MAX);
        Story late = Story.told("pa").law("z>y").times(78, "sound", 0, 0).times(19, "years", 500).then("years", 499).then("split", 0);
        bounds.takes(late, MIN + 78, "act", 79, 0, MAX);
        bounds.takes(late, MAX - 9919, "act", 79, 1, MIN);
        bounds.takes(late, 2 * (9999 - 79), "act", 79, 2, 0);
        bounds.takes(late, 78, "act", 78, 1, 0);
    }

    private Story acts(int want, int event, int act, int x, int... bodies) {
        Story acted = bounds.takes(EVENTFUL, want, "act", event, act, x);
        bounds.keeps(acted, bodies.length, "count", 7);
        for (int i = 0; i < bodies.length; i++) bounds.keeps(acted, bodies[i], "trace", i);
        for (int i : new int[] {MIN, -1, bodies.length, 7, 19, 20, MAX}) bounds.keeps(acted, NONE, "trace", i);
        return acted;
    }

    private void lookUp() {
        bounds.sentence("BODIES: EVENT: 1 tells: x + i. 2 leads: tells(x) - y. 3 marks: leads(x) * 2. SOUND: 11 tells: super.tells(x * 3). LOAN: 21 leads: super.leads(x) ^ 7. SPLIT: 31 marks: -super.marks(x). SHORT: 41 leads: super.leads(x - 1) + tells(2). FORGET: 51 tells: super.tells(x) + i. COIN: 61 marks: super.marks(x + 1) ^ 3.");
        acts(4, 0, 0, 4, 1);
        acts(3, 0, 1, 4, 21, 2, 1);
        acts(7, 0, 2, 4, 61, 3, 21, 2, 1);
        acts(13, 1, 0, 4, 11, 1);
        acts(3, 1, 1, 4, 2, 11, 1);
        acts(6, 1, 2, 4, 3, 2, 11, 1);
        acts(6, 2, 0, 4, 1);
        acts(-5, 2, 1, 4, 21, 2, 1);
        acts(-10, 2, 2, 4, 3, 21, 2, 1);
        acts(7, 3, 0, 4, 1);
        acts(-3, 3, 1, 4, 2, 1);
        acts(6, 3, 2, 4, 31, 3, 2, 1);
        bounds.sentence("tells(..) and so on: the body of its KIND, or, if that has none, of the next KIND above that has one; super.tells(..): so from the KIND above the body's on; what stands in a body is done from the left on.");
        acts(16, 4, 0, 4, 11, 1);
        acts(13, 4, 1, 4, 41, 2, 11, 1, 11, 1);
        acts(26, 4, 2, 4, 3, 41, 2, 11, 1, 11, 1);
        acts(14, 5, 0, 4, 51, 1);
        acts(3, 5, 1, 4, 21, 2, 51, 1);
        acts(6, 5, 2, 4, 3, 21, 2, 51, 1);
    }

    private void trace() {
        bounds.sentence("THE TRACE: the numbers of the bodies that ran in the latest act(), as they began; the first 20 are kept.");
        bounds.keeps(EVENTFUL, 0, "count", 7);
        bounds.keeps(EVENTFUL, NONE, "trace", 0);
        // No ACT runs more than seven bodies: SHORT's marks does.
        Story longest = acts(26, 4, 2, 4, 3, 41, 2, 11, 1, 11, 1);
        Story shorter = bounds.takes(longest, 6, "act", 2, 0, 4);
        bounds.keeps(shorter, 1, "count", 7);
        bounds.keeps(shorter, 1, "trace", 0);
        bounds.keeps(shorter, NONE, "trace", 1);
        Story again = bounds.takes(shorter, 26, "act", 4, 2, 4);
        bounds.alike(longest, again);
        // The latest one stays whatever else is done.
        Story later = longest.then("years", 3).then("tongue").then("forget", 0, 0).then("open").then("as", 0, 0);
        bounds.keeps(later, 41, "trace", 1);
        bounds.keeps(later, 7, "count", 7);
    }

    private void holes() {
        bounds.sentence("==== 3 LISTS: WORDS as they are now, but those told to be HOLES (of a TONGUE and MEANING). All of 3 and 4 knows nothing else of THE WORLD.");
        Story story = Story.told("pa te ki", "pa te ki", "pa te ki").law("z>y").law("a>e");
        Story hole = bounds.takes(story, 0, "hole", 0, 0, true);
        bounds.reads(hole, 0, 0, "pa");
        bounds.keeps(hole, NONE, "cost", 0, 0, 1);
        bounds.keeps(hole, NONE, "cost", 0, 1, 0);
        bounds.keeps(hole, NONE, "cost", 0, 0, 0);
        bounds.keeps(hole, NONE, "way", 0, 0, 1, -1);
        bounds.keeps(hole, NONE, "kin", 0, 1, 0);
        bounds.keeps(hole, NONE, "set", 0, 0);
        bounds.keeps(hole, 6, "set", 0, 1);
        bounds.keeps(hole, NONE, "odds", 0, 0, 1, 0);
        bounds.keeps(hole, 1, "odds", 1, 1, 0, 1);
        bounds.keeps(hole, 0, "matches", 0, 1, 16, 16);
        bounds.keeps(hole, 1, "matches", 1, 2, 16, 16);
        bounds.keeps(hole, 2, "far", 0, 1, 1);
        bounds.keeps(hole, NONE, "borrowed", 0, 0, 1);
        bounds.keeps(hole, 1, "old", 0, 0);
        bounds.keeps(hole, 2, "best", 0, 1, 1, -1);
        bounds.keeps(hole, 0, "best", 1, 0, 1, -2);
        bounds.keeps(hole, NONE, "claim", 0, 0, 1, true, 5);
        bounds.keeps(hole, NONE, "claim", 0, 1, 0, true, 5);
        // Of one MEANING or one TONGUE alone, and not of a WORD: whatever comes there is not in the LIST.
        bounds.keeps(hole, 0, "cost", 1, 0, 1);
        bounds.keeps(hole, 0, "cost", 0, 2, 1);
        bounds.keeps(hole.coin(0, 0, "po"), NONE, "cost", 0, 0, 1);
        bounds.keeps(hole.then("forget", 0, 0).then("loan", 0, 1, 0), NONE, "cost", 0, 0, 1);
        bounds.alike(story, bounds.takes(hole, 1, "hole", 0, 0, false));
        // As they are now: what LISTS tell goes with the WORDS.
        bounds.keeps(story.then("sound", 1, 1), 1, "cost", 0, 0, 1);
        bounds.keeps(story.then("forget", 1, 0), NONE, "cost", 0, 0, 1);
        bounds.keeps(story.then("shorten", 1, 0), 2, "cost", 0, 0, 1);
    }

    private void costs(int want, String one, String other) {
        Story story = Story.told(one, other);
        bounds.keeps(story, want, "cost", 0, 0, 1);
        bounds.keeps(story, want, "cost", 0, 1, 0);
    }

    private void cost() {
        bounds.sentence("COST of two WORDS: least of all ways to lay them side by side: a sound beside the like one 0; beside an unlike one 1, if both are VOWELS or both none, else 3; beside nothing 2.");
        costs(0, "a", "a");
        costs(0, "abcdefgh", "abcdefgh");
        costs(1, "a", "e");
        costs(1, "b", "z");
        costs(3, "a", "b");
        costs(2, "a", "ab");
        costs(14, "a", "abcdefgh");
        costs(17, "a", "bbbbbbbb");
        costs(8, "aaaaaaaa", "eeeeeeee");
        costs(24, "aaaaaaaa", "bbbbbbbb");
        // Two beside nothing, 4, cost more than one unlike, 3; but two unlike ones, 6, cost more than those.
        costs(4, "ab", "ba");
        costs(3, "pa", "pb");
        costs(4, "abc", "bca");
        costs(16, "aaaabbbb", "bbbbaaaa");
    }

    private void ways(String one, String other, int... want) {
        Story story = Story.told(one, other);
        bounds.keeps(story, want.length, "way", 0, 0, 1, -1);
        for (int i = 0; i < want.length; i++) bounds.keeps(story, want[i], "way", 0, 0, 1, i);
        for (int i : new int[] {MIN, -2, want.length, MAX}) bounds.keeps(story, NONE, "way", 0, 0, 1, i);
    }

    private void way() {
        bounds.sentence("THE WAY: from the front on; where several ways cost as little, both sounds go on if that costs as little, else the first WORD's alone, if that does, else the other's.");
        ways("a", "z", 126);
        ways("z", "a", 2601);
        ways("abcdefgh", "abcdefgh", 101, 202, 303, 404, 505, 606, 707, 808);
        // Both go on at the front, though the lone a could stand there as well.
        ways("aa", "a", 101, 100);
        ways("a", "aa", 101, 1);
        ways("pp", "b", 1602, 1600);
        // Not both, and either alone costs as little: the first WORD's.
        ways("ab", "ba", 100, 202, 1);
        ways("ba", "ab", 200, 101, 2);
        // Neither both nor the first alone cost as little.
        ways("b", "ab", 1, 202);
        ways("ab", "b", 100, 202);
        ways("a", "bbbbbbbb", 102, 2, 2, 2, 2, 2, 2, 2);
        // The other's alone at the front, and the first one's behind the last of eight.
        ways("bcdfghka", "abcdfghk", 1, 202, 303, 404, 606, 707, 808, 1111, 100);
        // Either alone in the midst, with more to pay behind it.
        ways("paktab", "patae", 1616, 101, 1100, 2020, 101, 205);
        ways("patae", "paktab", 1616, 101, 11, 2020, 101, 502);
        ways("aaaabbbb", "bbbbaaaa", 100, 100, 100, 100, 202, 202, 202, 202, 1, 1, 1, 1);
    }

    private void kin() {
        bounds.sentence("KIN are WORDS of one MEANING of two TONGUES, if 10 times their COST is no more than LIMIT (0 .. 60; 12 at first) times the sounds of the longer one.");
        kinFrom(10, "p", "b");
        kinFrom(10, "pppppppp", "bbbbbbbb");
        kinFrom(30, "a", "b");
        kinFrom(30, "aaaaaaaa", "bbbbbbbb");
        kinFrom(0, "abcdefgh", "abcdefgh");
        // 20 is no more than 10 times 2; 20 is more than 6 times 3, 170 more than 21 times 8.
        kinFrom(10, "a", "ab");
        kinFrom(7, "abc", "ab");
        kinFrom(22, "a", "bbbbbbbb");
        kinFrom(2, "abcdefgh", "abcdefgk");
        // COST 6 of five sounds is just KIN at first, COST 7 is not.
        Story first = Story.told("aaaaa aaaaa", "aeebe eeebe");
        bounds.keeps(first, 6, "cost", 0, 0, 1);
        bounds.keeps(first, 1, "kin", 0, 0, 1);
        bounds.keeps(first, 7, "cost", 1, 0, 1);
        bounds.keeps(first, 0, "kin", 1, 0, 1);
        bounds.keeps(first, BAD, "limit", -1);
        bounds.keeps(first, BAD, "limit", 61);
    }

    /** The WORDS are KIN from that LIMIT on, and not at one less. */
    private void kinFrom(int limit, String one, String other) {
        for (int at = 0; at <= 60; at++) {
            Story story = bounds.takes(Story.told(one, other), 12, "limit", at);
            bounds.keeps(story, at >= limit ? 1 : 0, "kin", 0, 0, 1);
            bounds.keeps(story, at >= limit ? 1 : 0, "kin", 0, 1, 0);
        }
    }

    private void kinSets() {
        bounds.sentence("KIN SETS of a MEANING: TONGUES whose WORDS are KIN, and through others.");
        // Two sounds at LIMIT 5 are KIN at COST 1, and each of these is at COST 1 from its neighbours alone.
        Story chain = Story.told("pa", "ba", "be", "te", "ti", "ki").then("limit", 5);
        for (int t = 0; t < 6; t++) bounds.keeps(chain, 63, "set", 0, t);
        bounds.keeps(chain, 0, "kin", 0, 0, 5);
        Story broken = chain.then("hole", 2, 0, true);
        for (int t = 0; t < 6; t++) bounds.keeps(broken, t == 2 ? NONE : t < 2 ? 3 : 56, "set", 0, t);
        Story apart = chain.then("limit", 4);
        for (int t = 0; t < 6; t++) bounds.keeps(apart, 1 << t, "set", 0, t);
        // Turned about, so that the way leads from the last to the first.
        Story turned = Story.told("be", "ki", "pa", "ti", "ba", "te").then("limit", 5);
        for (int t = 0; t < 6; t++) bounds.keeps(turned, 63, "set", 0, t);
        bounds.keeps(Story.told("pa"), 1, "set", 0, 0);
    }

    private void odds() {
        bounds.sentence("ODDS: of all WORDS of other MEANINGS of the second TONGUE (in its LIST) how many would be KIN with the first one's.");
        Story story = Story.told("pa", "pa pa pe pu pi po pa ba te ki", "pa", "-").then("limit", 5);
        bounds.keeps(story, 9, "odds", 0, 0, 1, 1);
        bounds.keeps(story, 7, "odds", 0, 0, 1, 0);
        bounds.keeps(story.then("hole", 1, 0, true), 9, "odds", 0, 0, 1, 1);
        bounds.keeps(story.then("hole", 1, 9, true), 8, "odds", 0, 0, 1, 1);
        bounds.keeps(story.then("hole", 1, 9, true), 7, "odds", 0, 0, 1, 0);
        for (int what = 0; what < 2; what++) {
            bounds.keeps(story, 0, "odds", 0, 0, 2, what);
            bounds.keeps(story, 0, "odds", 0, 0, 3, what);
            bounds.keeps(story, NONE, "odds", 1, 0, 1, what);
            bounds.keeps(story, NONE, "odds", 0, 3, 0, what);
        }
        bounds.keeps(story, 1, "odds", 9, 1, 0, 1);
        bounds.keeps(story, 0, "odds", 9, 1, 0, 0);
    }

    private void matches() {
        bounds.sentence("MATCHES of sounds x, y (0: nothing) of two TONGUES: in how many MEANINGS whose WORDS are KIN they stand side by side in THE WAY (each MEANING once).");
        Story all = Story.told("pap pap pap pap pap pap pap pap pap pap", "bab bab bab bab bab bab bab bab bab bab");
        bounds.keeps(all, 10, "matches", 0, 1, 16, 2);
        bounds.keeps(all, 10, "matches", 1, 0, 2, 16);
        bounds.keeps(all, 0, "matches", 1, 0, 16, 2);
        bounds.keeps(all, 10, "matches", 0, 1, 1, 1);
        bounds.keeps(all.then("limit", 6), 0, "matches", 0, 1, 16, 2);
        bounds.keeps(all.then("limit", 7), 10, "matches", 0, 1, 16, 2);
        bounds.keeps(all.then("hole", 0, 9, true).then("forget", 1, 0), 8, "matches", 0, 1, 16, 2);
        Story edges = Story.told("zap azz", "zapz zz");
        bounds.keeps(edges, 2, "matches", 0, 1, 26, 26);
        bounds.keeps(edges, 1, "matches", 0, 1, 0, 26);
        bounds.keeps(edges, 1, "matches", 0, 1, 1, 0);
        bounds.keeps(edges, 0, "matches", 0, 1, 26, 0);
        bounds.keeps(Story.told("pa", "-"), 0, "matches", 0, 1, 16, 16);
    }

    private void far() {
        bounds.sentence("FAR of two TONGUES: COSTS of all MEANINGS that both LISTS have, and how many.");
        Story most = Story.told("aaaaaaaa ".repeat(10).trim(), "bbbbbbbb ".repeat(10).trim());
        bounds.keeps(most, 240, "far", 0, 1, 0);
        bounds.keeps(most, 10, "far", 1, 0, 1);
        bounds.keeps(most.then("hole", 1, 9, true), 216, "far", 0, 1, 0);
        bounds.keeps(most.then("forget", 0, 0), 9, "far", 0, 1, 1);
        Story none = Story.told("pa -", "- pa");
        bounds.keeps(none, 0, "far", 0, 1, 0);
        bounds.keeps(none, 0, "far", 0, 1, 1);
        // Both have it, and it costs nothing.
        Story like = Story.told("pa", "pa");
        bounds.keeps(like, 0, "far", 0, 1, 0);
        bounds.keeps(like, 1, "far", 0, 1, 1);
    }

    private void loans() {
        bounds.sentence("LOANS: a WORD of a TONGUE seems to be one from another TONGUE, if its COST with that one's is 0, and of all other MEANINGS that both LISTS have, 2 or more, the COSTS are together more than twice as many as these MEANINGS.");
        // Others of COST 3 and 1 are just not more than 4; 3 and 2 are; of COST 9 alone there must be two.
        bounds.keeps(Story.told("pa a p", "pa b k"), 0, "borrowed", 0, 0, 1);
        bounds.keeps(Story.told("pa a pe", "pa b ki"), 1, "borrowed", 0, 0, 1);
        bounds.keeps(Story.told("pa aaa", "pa bbb"), 0, "borrowed", 0, 0, 1);
        bounds.keeps(Story.told("pa aaa k", "pa bbb k"), 1, "borrowed", 0, 0, 1);
        bounds.keeps(Story.told("pa aaa k", "pa bbb k").then("hole", 1, 2, true), 0, "borrowed", 0, 0, 1);
        bounds.keeps(Story.told("pa", "pa"), 0, "borrowed", 0, 0, 1);
        // COST 1 is not 0, however far the others are.
        bounds.keeps(Story.told("pa aaa aaa", "pe bbb bbb"), 0, "borrowed", 0, 0, 1);
        // All nine others: 18 is not more than 18, 19 is.
        String nine = "pa aa aa aa aa aa aa aa aa ";
        String other = "pa a a a a a a a a ";
        bounds.keeps(Story.told(nine + "aa", other + "a"), 0, "borrowed", 0, 0, 1);
        bounds.keeps(Story.told(nine + "a", other + "b"), 1, "borrowed", 0, 0, 1);
        bounds.keeps(Story.told(nine + "a", other + "b"), 1, "borrowed", 0, 1, 0);
        // Its own MEANING, the last one here, is none of the others: 5 is more than twice two, 4 is not.
        Story last = Story.told("- - - - - - - a pe pa", "- - - - - - - b ki pa");
        bounds.keeps(last, 1, "borrowed", 9, 0, 1);
        bounds.keeps(last.then("shorten", 0, 8).then("shorten", 1, 8), 0, "borrowed", 9, 0, 1);
    }

    private void oldForm() {
        bounds.sentence("OLD FORM of a MEANING: the WORD of the LIST (TONGUE) whose COSTS with all others of that MEANING together are least; of several the least TONGUE; UNSURE: how many have as little.");
        olds(Story.told("pa"), 0, 0, 1);
        olds(Story.told("-", "pa"), 1, 0, 1);
        olds(Story.told("pa", "pa"), 0, 0, 2);
        olds(Story.told("pa", "ba"), 0, 1, 2);
        olds(Story.told("pa", "pa", "pa", "pa", "pa", "pa"), 0, 0, 6);
        // COSTS together: 9, 7, 7, 8, 9, 8.
        olds(Story.told("ba", "be", "te", "ti", "ki", "pe"), 1, 7, 2);
        olds(Story.told("aaaaaaaa", "bbbbbbbb", "bbbbbbbb", "bbbbbbbb", "bbbbbbbb", "bbbbbbbb"), 1, 24, 5);
        olds(Story.told("k", "pa", "pe"), 1, 4, 2);
        olds(Story.told("pa", "pa").then("hole", 0, 0, true), 1, 0, 1);
        olds(Story.told("pa", "pa").then("hole", 0, 0, true).then("hole", 1, 0, true), -5, -5, -5);
        olds(Story.told("-"), -5, -5, -5);
        olds(Story.NEW, -5, -5, -5);
    }

    private void olds(Story story, int... want) {
        for (int what = 0; what < 3; what++) bounds.keeps(story, want[what], "old", 0, what);
    }

    private void orders() {
        bounds.sentence("==== 4 ORDERS: of told LAWS (1 .. 4 unlike ones) each order, all of them one behind the other, leads WORDS of one TONGUE's LIST to others: BEST is that by which most MEANINGS of both LISTS come out as the other TONGUE's WORD; of several the first (as a row of LAWS); EXCEPTIONS: those (of both LISTS) that don't, as bits.");
        for (int size = 1; size <= 4; size++) onlyOneOrder(size, new int[size], 0);
        Story twelve = Story.told("pa pe pi po pu pap pep pip pop pup", "pa pe pi po pu pap pep pip pop pup", "-");
        for (int l = 0; l < 12; l++) twelve = twelve.law("z>y");
        int[][] told = {{0}, {11}, {0, 11}, {3, 7, 9}, {8, 9, 10, 11}, {0, 1, 2, 3}};
        for (int[] row : told) {
            int bits = 0;
            for (int l : row) bits |= 1 << l;
            // All orders come out alike: of several the first one, and of no MEANINGS at all, too.
            for (int i = 0; i < row.length; i++) {
                bounds.keeps(twelve, row[i], "best", 0, 1, bits, i);
                bounds.keeps(twelve, row[i], "best", 0, 2, bits, i);
            }
            bounds.keeps(twelve, NONE, "best", 0, 1, bits, row.length);
            bounds.keeps(twelve, 10, "best", 0, 1, bits, -1);
            bounds.keeps(twelve, 0, "best", 0, 1, bits, -2);
            bounds.keeps(twelve, 0, "best", 0, 2, bits, -1);
            bounds.keeps(twelve, 0, "best", 0, 2, bits, -2);
        }
        for (int bits : new int[] {0, 31, 4095, 0xf01, 1 << 12, 1 | 1 << 12, -1, MIN, MIN | 1, MAX}) {
            bounds.keeps(twelve, BAD, "best", 0, 1, bits, -1);
        }
        Story unlike = Story.told("pa pe pi po pu pap pep pip pop pup", "ka ke ki ko ku kap kep kip kop kup").law("z>y");
        bounds.keeps(unlike, 0, "best", 0, 1, 1, -1);
        bounds.keeps(unlike, 1023, "best", 0, 1, 1, -2);
    }

    /** Of so many LAWS, numbered in every way, one order alone makes of a what is due: the one that goes on a letter a time. */
    private void onlyOneOrder(int size, int[] places, int set) {
        if (set == size) {
            String[] laws = new String[size];
            for (int i = 0; i < size; i++) laws[places[i]] = (char) ('a' + i) + ">" + (char) ('a' + i + 1);
            Story story = Story.told("a p", (char) ('a' + size) + " k");
            for (String law : laws) story = story.law(law);
            int all = (1 << size) - 1;
            bounds.keeps(story, 1, "best", 0, 1, all, -1);
            bounds.keeps(story, 2, "best", 0, 1, all, -2);
            for (int i = 0; i < size; i++) bounds.keeps(story, places[i], "best", 0, 1, all, i);
            bounds.keeps(story, NONE, "best", 0, 1, all, size);
            return;
        }
        for (int place = 0; place < size; place++) {
            boolean free = true;
            for (int i = 0; i < set; i++) free &= places[i] != place;
            places[set] = place;
            if (free) onlyOneOrder(size, places, set + 1);
        }
    }

    private void feed() {
        bounds.sentence("Two LAWS FEED one another in a TONGUE, if some WORD of its LIST comes out otherwise by the one ahead of the other than the other way round.");
        Story story = Story.told("- - - - - - - - - pa", "po", "-").law("a>e").law("e>i").law("p>b");
        bounds.keeps(story, 1, "feeds", 0, 0, 1);
        bounds.keeps(story, 1, "feeds", 0, 1, 0);
        bounds.keeps(story, 0, "feeds", 0, 0, 2);
        bounds.keeps(story, 0, "feeds", 1, 0, 1);
        bounds.keeps(story, 0, "feeds", 2, 0, 1);
        bounds.keeps(story.then("hole", 0, 9, true), 0, "feeds", 0, 0, 1);
        bounds.keeps(story.then("forget", 0, 9), 0, "feeds", 0, 0, 1);
        bounds.keeps(story.then("hole", 0, 9, true).coin(0, 0, "ta"), 1, "feeds", 0, 0, 1);
        // A LAW that takes away what the other one needs, and two that are alike.
        bounds.keeps(Story.told("pat").law("a>0/p_").law("p>b/_a"), 1, "feeds", 0, 0, 1);
        bounds.keeps(Story.told("a").law("a>e").law("a>e"), 0, "feeds", 0, 0, 1);
    }

    private void trees() {
        bounds.sentence("TREES of told TONGUES (3 .. 6 of them): the first three (by numbers) meet in one knot; each later one is set on one of the branches that there are, by a digit: branches are numbered as they came (0, 1, 2: to the first three; setting a TONGUE on branch b makes a knot on it: b ends at the knot from where it began (from the first knot, or the older one), a new branch leads on from there to where b led, then a new one to the TONGUE).");
        // Each row tells the groups that stand apart in one TREE alone, one MEANING each; k is in the group, a is not.
        treeIs(15, 0, "k a a k");
        treeIs(15, 1, "a k a k");
        treeIs(15, 2, "a a k k");
        treeIs(31, 0, "k a a k a", "k a a k k");
        treeIs(31, 1, "k a a k a", "a k a a k");
        treeIs(31, 3, "k a a a k", "k a a k k");
        treeIs(31, 4, "a a a k k", "k a a k k");
        treeIs(31, 14, "a a a k k", "a a k k k");
        treeIs(63, 0, "k a a k a a", "k a a k k a", "k a a k k k");
        treeIs(63, 104, "a a a a k k", "a a a k k k", "a a k k k k");
        treeIs(63, 90, "k k a a a a", "a a k k a a", "a a a a k k");
        bounds.sentence("A TREE's number: these digits, the latest TONGUE's the lowest, to the bases 3, 5, 7.");
        // (2 * 5 + 0) * 7 + 6: 3 beside 2; 4 beside 0, behind branches 5 and 6; so 5, on branch 6, beside 4.
        treeIs(63, 76, "a a k k a a", "a a a a k k", "k a a a k k");
        // (1 * 5 + 4) * 7 + 3: 3 beside 1; 4 beside 3; 5 on branch 3, to 1.
        treeIs(63, 66, "a a a k k a", "a k a a a k", "a k a k k k");
        int[][] most = {{7, 1}, {15, 3}, {31, 15}, {63, 105}, {56, 1}, {58, 3}, {62, 15}};
        Story six = Story.told("pa", "pa", "pa", "pa", "pa", "pa");
        for (int[] each : most) {
            for (int number = 0; number < each[1]; number++) bounds.takes(six, 0, "steps", each[0], number);
            for (int number : new int[] {MIN, -1, each[1], MAX}) bounds.keeps(six, BAD, "steps", each[0], number);
            bounds.keeps(six, each[1], "tree", each[0], 2);
        }
    }

    /** By each MEANING one change is due in that TREE, and in every other one more by at least one of them. */
    private void treeIs(int tongues, int number, String... groups) {
        int size = groups[0].split(" ").length;
        String[] rows = new String[size];
        for (int t = 0; t < size; t++) {
            rows[t] = "";
            for (String group : groups) rows[t] += group.split(" ")[t] + " ";
        }
        Story story = Story.told(rows).then("limit", 0);
        bounds.keeps(story, number, "tree", tongues, 0);
        bounds.keeps(story, groups.length, "tree", tongues, 1);
        bounds.keeps(story, 1, "tree", tongues, 2);
        bounds.keeps(story, groups.length, "steps", tongues, number);
    }

    private void steps() {
        bounds.sentence("STEPS: for each MEANING the least number of changes of KIN SET along branches (TONGUES without a WORD in the LIST may be of any), together.");
        Story none = Story.NEW.times(6, "tongue");
        bounds.keeps(none, 0, "steps", 63, 104);
        bounds.keeps(none, 0, "steps", 7, 0);
        // One alone has a WORD, or two have unlike ones; all others may be of any.
        for (int t = 0; t < 6; t++) {
            Story one = none.coin(t, 0, "p").then("limit", 0);
            Story two = one.coin((t + 1) % 6, 0, "t");
            for (int number = 0; number < 105; number++) {
                bounds.takes(one, 0, "steps", 63, number);
                bounds.takes(two, 1, "steps", 63, number);
            }
        }
        // Six sets of their own in all ten MEANINGS: five changes each, in every TREE.
        String[] rows = new String[6];
        for (int t = 0; t < 6; t++) rows[t] = ("ptkbdg".charAt(t) + " ").repeat(10).trim();
        Story split = Story.told(rows[0]).then("limit", 0);
        for (int t = 1; t < 6; t++) split = split.then("split", 0).law("p>" + "ptkbdg".charAt(t)).then("sound", t, t - 1);
        for (int number : new int[] {0, 52, 104}) bounds.keeps(split, 50, "steps", 63, number);
        bounds.keeps(split, 20, "steps", 7, 0);
        bounds.keeps(split, 30, "steps", 15, 2);
        for (int t = 0; t < 6; t++) bounds.keeps(split.then("hole", t, 9, true), 49, "steps", 63, 0);
        bounds.keeps(split.then("limit", 10), 0, "steps", 63, 0);
        // 0 with 3 and 1 with 2 is one change less than other TREES, unless one of them may be of any.
        Story four = Story.told("p", "t", "t", "p").then("limit", 0);
        bounds.keeps(four, 1, "steps", 15, 0);
        bounds.keeps(four, 2, "steps", 15, 1);
        bounds.keeps(four, 2, "steps", 15, 2);
        bounds.keeps(four.then("hole", 1, 0, true), 1, "steps", 15, 1);
        bounds.keeps(four.then("forget", 3, 0), 1, "steps", 15, 2);
    }

    private void bestTree() {
        bounds.sentence("BEST: the TREE of the fewest STEPS, of several the least number; RIVALS: how many have as few.");
        Story three = Story.told("p", "t", "k", "p", "t").then("limit", 0);
        treeTells(three, 7, 0, 2, 1);
        treeTells(three, 21, 0, 2, 1);
        // 0 with 3 and 1 with 4 asks for 4 on the branch to 1. One set of two and two of their own ask for nothing.
        treeTells(three, 27, 1, 1, 1);
        treeTells(three, 15, 0, 2, 3);
        Story like = Story.told("p", "p", "p", "p", "p", "p");
        treeTells(like, 7, 0, 0, 1);
        treeTells(like, 15, 0, 0, 3);
        treeTells(like, 31, 0, 0, 15);
        treeTells(like, 63, 0, 0, 105);
        // The last two of three TREES are as good: the lesser number.
        Story two = Story.told("p p", "t p", "p t", "t t").then("limit", 0);
        treeTells(two, 15, 1, 3, 2);
    }

    private void treeTells(Story story, int tongues, int... want) {
        for (int what = 0; what < 3; what++) bounds.keeps(story, want[what], "tree", tongues, what);
    }

    private void claims() {
        bounds.sentence("CLAIMS, 60 at most, ahead of THE TRUTH's being open: that WORDS of a MEANING of two TONGUES are KIN, or not, how sure (0 .. 10).");
        Story story = Story.told("pa te", "pa te");
        for (int claim = 0; claim < 60; claim++) story = bounds.takes(story, claim, "claim", claim % 2, 0, 1, claim % 3 == 0, claim % 11);
        bounds.keeps(story, 60, "count", 4);
        bounds.keeps(story, FULL, "claim", 0, 0, 1, true, 5);
        for (int sure = 0; sure <= 10; sure++) bounds.keeps(story, sure < 5 ? 6 : 5, "sure", sure, 0);
        Story full = bounds.takes(story, 60, "open");
        bounds.keeps(full, STATE, "claim", 0, 0, 1, true, 5);
        bounds.keeps(full, 1, "right", 59);
        bounds.keeps(full, NONE, "right", 60);
        Story one = Story.told("pa te", "pa te");
        bounds.takes(one, 0, "claim", 0, 0, 1, true, 0);
        bounds.takes(one, 0, "claim", 0, 0, 1, false, 10);
        for (int sure : new int[] {MIN, -1, 11, MAX}) bounds.keeps(one, BAD, "claim", 0, 0, 1, true, sure);
        Story open = bounds.takes(one, 0, "open");
        bounds.keeps(open, STATE, "claim", 0, 0, 1, true, 5);
        bounds.keeps(open, 0, "count", 4);
    }

    private void right() {
        bounds.sentence("RIGHT: whether they are of one ROOT, as they were claimed (their ROOTS then).");
        // 0 and 1 are alike and of two ROOTS; 0 and 2 of one, and unlike soon.
        Story story = Story.told("pa", "pa").then("split", 0).law("p>k,a>o").then("sound", 2, 0)
            .then("claim", 0, 0, 1, true, 1).then("claim", 0, 0, 1, false, 1).then("claim", 0, 0, 2, true, 1)
            .then("claim", 0, 2, 0, false, 1);
        int[] then = {0, 1, 1, 0};
        for (int claim = 0; claim < 4; claim++) bounds.keeps(story.then("open"), then[claim], "right", claim);
        // The ROOTS of later do not matter: neither a LOAN's nor a new one nor none.
        Story later = story.then("loan", 0, 0, 1).coin(2, 0, "pa").then("forget", 0, 0).then("open");
        for (int claim = 0; claim < 4; claim++) bounds.keeps(later, then[claim], "right", claim);
        bounds.keeps(later, 2, "sure", 1, 1);
        Story opened = story.then("open").then("loan", 0, 0, 1).coin(2, 0, "pa");
        for (int claim = 0; claim < 4; claim++) bounds.keeps(opened, then[claim], "right", claim);
        Story lent = story.then("loan", 0, 0, 1).then("claim", 0, 0, 1, true, 2).then("open");
        bounds.keeps(lent, 0, "right", 0);
        bounds.keeps(lent, 1, "right", 4);
    }
}
