/** Tongues of small crowds, a world with its truth shut, and a second machine that has only lists. */
public final class SmallTongues {
    public static final int NONE = -1, BAD = -2, STATE = -3, FULL = -4;

    private static final int NOT_TOLD = -5;
    private static final int OTHER_KIND = -6;
    private static final int FAULTY = -10;

    private static final int MOST_TONGUES = 6;
    private static final int MEANINGS = 10;
    private static final int MOST_SOUNDS = 8;
    private static final int LAST_YEAR = 9999;
    private static final int MOST_YEARS = 500;
    private static final int MOST_BYTES = 80;
    private static final int MOST_LAWS = 12;
    private static final int MOST_CHANGES = 6;
    private static final int MOST_EVENTS = 80;
    private static final int MOST_CLAIMS = 60;
    private static final int MOST_SURE = 10;
    private static final int MOST_LIMIT = 60;
    private static final int MOST_ORDERED = 4;
    private static final int MOST_ORDERS = 24;
    private static final int LETTERS = 26;
    private static final int LEAST_LEAVES = 3;
    private static final int KEPT_BODIES = 20;
    private static final int ANY_SET = (1 << MOST_TONGUES) - 1;

    private final int[] tape = new int[MOST_BYTES];
    private int tapeSize;
    private final Word[] words = new Word[MOST_TONGUES * MEANINGS];
    private int tongueCount;
    // Two numbers a TONGUE: from which it split off, and when.
    private final int[] splits = new int[2 * MOST_TONGUES];
    private final Law[] laws = new Law[MOST_LAWS];
    private int lawCount;
    private final Event[] events = new Event[MOST_EVENTS];
    private int eventCount;
    // The EVENT of the latest act(), which keeps THE TRACE; null when there is no TRACE.
    private Event latest;
    private int rootCount;
    private int now;
    private boolean isOpen;
    private int kinLimit = 12;
    // Two numbers a CLAIM: how sure it was, and whether it is RIGHT.
    private final int[] claims = new int[2 * MOST_CLAIMS];
    private int claimCount;
    private final SideBySide sides = new SideBySide();
    private final Branches branches = new Branches();
    private final Word trial = new Word();
    private final Word otherTrial = new Word();

    public SmallTongues() {
        for (int i = 0; i < MOST_TONGUES * MEANINGS; i++) {
            words[i] = new Word();
        }
        for (int i = 0; i < MOST_LAWS; i++) {
            laws[i] = new Law();
        }
    }

    // ---- the world

    public int tongue() {
        if (tongueCount >= MOST_TONGUES) {
            return FULL;
        }
        return newTongue(NOT_TOLD, NOT_TOLD);
    }

    public int years(int n) {
        if (n < 1 || n > MOST_YEARS || now + n > LAST_YEAR) {
            return BAD;
        }
        now += n;
        return now;
    }

    public int feed(long w, int n) {
        if (n < 1 || n > 8) {
            return BAD;
        }
        if (tapeSize + n > MOST_BYTES) {
            return FULL;
        }
        for (int i = n - 1; i >= 0; i--) {
            tape[tapeSize] = (int) (w >>> (8 * i)) & 255;
            tapeSize++;
        }
        return tapeSize;
    }

    public int law() {
        if (lawCount >= MOST_LAWS) {
            return FULL;
        }
        int size = tapeSize;
        tapeSize = 0;
        int fault = laws[lawCount].read(tape, size);
        if (fault >= 0) {
            return FAULTY - fault;
        }
        lawCount++;
        return lawCount - 1;
    }

    public int coin(int tongue, int meaning) {
        if (!isTongue(tongue) || !isMeaning(meaning)) {
            return NONE;
        }
        if (eventCount >= MOST_EVENTS) {
            return FULL;
        }
        int size = tapeSize;
        tapeSize = 0;
        int fault = faultOfWord(size);
        if (fault >= 0) {
            return FAULTY - fault;
        }
        Word coined = words[tongue * MEANINGS + meaning];
        coined.readSounds(tape, size);
        coined.root = rootCount;
        coined.isLoan = false;
        rootCount++;
        happen(new CoinEvent(eventCount, now, tongue, NOT_TOLD, meaning));
        return coined.root;
    }

    public int sound(int tongue, int law) {
        if (!isTongue(tongue) || !isLaw(law)) {
            return NONE;
        }
        if (eventCount >= MOST_EVENTS) {
            return FULL;
        }
        int others = 0;
        for (int meaning = 0; meaning < MEANINGS; meaning++) {
            if (laws[law].comeOver(words[tongue * MEANINGS + meaning])) {
                others++;
            }
        }
        happen(new SoundEvent(eventCount, now, tongue, law, NOT_TOLD));
        return others;
    }

    public int shorten(int tongue, int meaning) {
        Word spoken = spokenWord(tongue, meaning);
        if (spoken == null) {
            return NONE;
        }
        if (spoken.size < 2) {
            return STATE;
        }
        if (eventCount >= MOST_EVENTS) {
            return FULL;
        }
        spoken.size--;
        happen(new ShortEvent(eventCount, now, tongue, NOT_TOLD, meaning));
        return spoken.size;
    }

    public int loan(int meaning, int from, int to) {
        Word spoken = spokenWord(from, meaning);
        if (spoken == null || !isTongue(to)) {
            return NONE;
        }
        if (from == to) {
            return BAD;
        }
        if (eventCount >= MOST_EVENTS) {
            return FULL;
        }
        Word lent = words[to * MEANINGS + meaning];
        lent.copySounds(spoken);
        lent.root = spoken.root;
        lent.isLoan = true;
        happen(new LoanEvent(eventCount, now, to, NOT_TOLD, meaning));
        return lent.root;
    }

    public int forget(int tongue, int meaning) {
        Word spoken = spokenWord(tongue, meaning);
        if (spoken == null) {
            return NONE;
        }
        if (eventCount >= MOST_EVENTS) {
            return FULL;
        }
        spoken.size = 0;
        happen(new ForgetEvent(eventCount, now, tongue, NOT_TOLD, meaning));
        return spoken.root;
    }

    public int split(int tongue) {
        if (!isTongue(tongue)) {
            return NONE;
        }
        if (tongueCount >= MOST_TONGUES || eventCount >= MOST_EVENTS) {
            return FULL;
        }
        int fresh = newTongue(tongue, now);
        for (int meaning = 0; meaning < MEANINGS; meaning++) {
            Word kept = words[tongue * MEANINGS + meaning];
            Word taken = words[fresh * MEANINGS + meaning];
            taken.copySounds(kept);
            taken.root = kept.root;
            taken.isLoan = kept.isLoan;
        }
        happen(new SplitEvent(eventCount, now, fresh, NOT_TOLD, NOT_TOLD));
        return fresh;
    }

    public int word(int tongue, int meaning, int i) {
        Word spoken = spokenWord(tongue, meaning);
        if (spoken == null || i < -1 || i >= spoken.size) {
            return NONE;
        }
        return i < 0 ? spoken.size : spoken.letters[i];
    }

    // ---- the truth

    public int open() {
        if (isOpen) {
            return STATE;
        }
        isOpen = true;
        return claimCount;
    }

    public int truth(int tongue, int meaning, int what) {
        Word spoken = spokenWord(tongue, meaning);
        if (spoken == null || what < 0 || what > 1) {
            return NONE;
        }
        if (!isOpen) {
            return STATE;
        }
        return what == 0 ? spoken.root : oneIf(spoken.isLoan);
    }

    public int from(int tongue, int what) {
        if (!isTongue(tongue) || what < 0 || what > 1) {
            return NONE;
        }
        if (!isOpen) {
            return STATE;
        }
        return splits[2 * tongue + what];
    }

    public int event(int i, int what) {
        Event past = eventAt(i);
        if (past == null || what < 0 || what > 4) {
            return NONE;
        }
        if (!isOpen) {
            return STATE;
        }
        switch (what) {
            case 0:
                return past.kindNumber();
            case 1:
                return past.year;
            case 2:
                return past.tongueNumber;
            case 3:
                return past.lawNumber;
            default:
                return past.meaningNumber;
        }
    }

    // ---- lists

    public int limit(int n) {
        if (n < 0 || n > MOST_LIMIT) {
            return BAD;
        }
        int before = kinLimit;
        kinLimit = n;
        return before;
    }

    public int hole(int tongue, int meaning, boolean so) {
        if (!isTongue(tongue) || !isMeaning(meaning)) {
            return NONE;
        }
        Word place = words[tongue * MEANINGS + meaning];
        boolean before = place.isHole;
        place.isHole = so;
        return oneIf(before);
    }

    public int cost(int meaning, int a, int b) {
        Word first = listedWord(a, meaning);
        Word second = listedWord(b, meaning);
        if (first == null || second == null) {
            return NONE;
        }
        return sides.leastCost(first, second);
    }

    public int way(int meaning, int a, int b, int i) {
        Word first = listedWord(a, meaning);
        Word second = listedWord(b, meaning);
        if (first == null || second == null || i < -1) {
            return NONE;
        }
        sides.lay(first, second);
        if (i >= sides.places) {
            return NONE;
        }
        return i < 0 ? sides.places : sides.pairs[i];
    }

    public int kin(int meaning, int a, int b) {
        Word first = listedWord(a, meaning);
        Word second = listedWord(b, meaning);
        if (first == null || second == null) {
            return NONE;
        }
        if (a == b) {
            return BAD;
        }
        return oneIf(areKin(first, second));
    }

    public int set(int meaning, int tongue) {
        if (listedWord(tongue, meaning) == null) {
            return NONE;
        }
        return kinSet(meaning, tongue);
    }

    public int odds(int meaning, int a, int b, int what) {
        Word first = listedWord(a, meaning);
        if (first == null || !isTongue(b) || what < 0 || what > 1) {
            return NONE;
        }
        int wouldBe = 0;
        int all = 0;
        for (int other = 0; other < MEANINGS; other++) {
            Word second = listedWord(b, other);
            if (other != meaning && second != null) {
                all++;
                wouldBe += oneIf(areKin(first, second));
            }
        }
        return what == 0 ? wouldBe : all;
    }

    public int matches(int a, int b, int x, int y) {
        if (!isTongue(a) || !isTongue(b)) {
            return NONE;
        }
        if (a == b || !isSoundOrNothing(x) || !isSoundOrNothing(y) || x + y == 0) {
            return BAD;
        }
        int found = 0;
        for (int meaning = 0; meaning < MEANINGS; meaning++) {
            Word first = listedWord(a, meaning);
            Word second = listedWord(b, meaning);
            if (first != null && second != null && areKin(first, second)) {
                sides.lay(first, second);
                found += oneIf(sides.hasPair(100 * x + y));
            }
        }
        return found;
    }

    public int far(int a, int b, int what) {
        if (!isTongue(a) || !isTongue(b) || what < 0 || what > 1) {
            return NONE;
        }
        if (a == b) {
            return BAD;
        }
        int both = meaningsOfBoth(a, b);
        return what == 0 ? costsTogether(a, b, both) : Integer.bitCount(both);
    }

    public int borrowed(int meaning, int tongue, int from) {
        Word own = listedWord(tongue, meaning);
        Word theirs = listedWord(from, meaning);
        if (own == null || theirs == null) {
            return NONE;
        }
        if (tongue == from) {
            return BAD;
        }
        if (sides.leastCost(own, theirs) != 0) {
            return 0;
        }
        int others = meaningsOfBoth(tongue, from) & ~(1 << meaning);
        int number = Integer.bitCount(others);
        return oneIf(number >= 2 && costsTogether(tongue, from, others) > 2 * number);
    }

    public int old(int meaning, int what) {
        if (!isMeaning(meaning) || what < 0 || what > 2) {
            return NONE;
        }
        int whose = NOT_TOLD;
        int least = 0;
        int asLittle = 0;
        for (int tongue = 0; tongue < tongueCount; tongue++) {
            if (listedWord(tongue, meaning) != null) {
                int costs = costsWithOthers(tongue, meaning);
                if (whose < 0 || costs < least) {
                    whose = tongue;
                    least = costs;
                    asLittle = 0;
                }
                asLittle += oneIf(costs == least);
            }
        }
        if (whose < 0) {
            return NOT_TOLD;
        }
        return what == 0 ? whose : what == 1 ? least : asLittle;
    }

    // ---- orders, trees

    public int best(int from, int to, int laws, int i) {
        if (!isTongue(from) || !isTongue(to) || i < -2) {
            return NONE;
        }
        int told = Integer.bitCount(laws);
        if (from == to || laws >>> lawCount != 0 || told < 1 || told > MOST_ORDERED) {
            return BAD;
        }
        if (i >= told) {
            return NONE;
        }
        int[] row = firstOrder(laws);
        int[] bestRow = new int[MOST_ORDERED];
        int bestOut = 0;
        int most = -1;
        boolean more = true;
        for (int n = 0; n < MOST_ORDERS && more; n++) {
            int out = comeOut(from, to, row, told);
            if (Integer.bitCount(out) > most) {
                most = Integer.bitCount(out);
                bestOut = out;
                System.arraycopy(row, 0, bestRow, 0, told);
            }
            more = toNextOrder(row, told);
        }
        if (i == -2) {
            return meaningsOfBoth(from, to) & ~bestOut;
        }
        return i == -1 ? most : bestRow[i];
    }

    public int feeds(int tongue, int a, int b) {
        if (!isTongue(tongue) || !isLaw(a) || !isLaw(b)) {
            return NONE;
        }
        if (a == b) {
            return BAD;
        }
        for (int meaning = 0; meaning < MEANINGS; meaning++) {
            Word listed = listedWord(tongue, meaning);
            if (listed != null && isOrderFelt(listed, laws[a], laws[b])) {
                return 1;
            }
        }
        return 0;
    }

    public int steps(int tongues, int tree) {
        if (!areLeaves(tongues) || tree < 0 || tree >= treesOf(tongues)) {
            return BAD;
        }
        hangSets();
        return stepsOf(tongues, tree);
    }

    public int tree(int tongues, int what) {
        if (!areLeaves(tongues)) {
            return BAD;
        }
        if (what < 0 || what > 2) {
            return NONE;
        }
        hangSets();
        int trees = treesOf(tongues);
        int bestTree = 0;
        int fewest = 0;
        int asFew = 0;
        for (int number = 0; number < trees; number++) {
            int taken = stepsOf(tongues, number);
            if (number == 0 || taken < fewest) {
                bestTree = number;
                fewest = taken;
                asFew = 0;
            }
            asFew += oneIf(taken == fewest);
        }
        return what == 0 ? bestTree : what == 1 ? fewest : asFew;
    }

    // ---- claims

    public int claim(int meaning, int a, int b, boolean kin, int sure) {
        Word first = listedWord(a, meaning);
        Word second = listedWord(b, meaning);
        if (first == null || second == null) {
            return NONE;
        }
        if (a == b || !isSureness(sure)) {
            return BAD;
        }
        if (isOpen) {
            return STATE;
        }
        if (claimCount >= MOST_CLAIMS) {
            return FULL;
        }
        // The ROOTS of now are what is claimed, so whether it is RIGHT is settled here.
        claims[2 * claimCount] = sure;
        claims[2 * claimCount + 1] = oneIf((first.root == second.root) == kin);
        claimCount++;
        return claimCount - 1;
    }

    public int right(int claim) {
        if (claim < 0 || claim >= claimCount) {
            return NONE;
        }
        if (!isOpen) {
            return STATE;
        }
        return claims[2 * claim + 1];
    }

    public int sure(int sure, int what) {
        if (what < 0 || what > 1) {
            return NONE;
        }
        if (!isSureness(sure)) {
            return BAD;
        }
        if (what == 1 && !isOpen) {
            return STATE;
        }
        int found = 0;
        for (int c = 0; c < claimCount; c++) {
            if (claims[2 * c] == sure) {
                found += what == 0 ? 1 : claims[2 * c + 1];
            }
        }
        return found;
    }

    // ---- acts

    public int act(int i, int act, int x) {
        latest = null;
        Event past = eventAt(i);
        if (past == null || act < 0 || act > 2) {
            return 0;
        }
        latest = past;
        past.ran = 0;
        switch (act) {
            case 0:
                return past.tells(x);
            case 1:
                return past.leads(x);
            default:
                return past.marks(x);
        }
    }

    public int trace(int i) {
        if (latest == null || i < 0 || i >= latest.ran || i >= KEPT_BODIES) {
            return NONE;
        }
        return latest.bodies[i];
    }

    public int as(int i, int k) {
        Event past = eventAt(i);
        if (past == null || k < 0 || k > 6) {
            return NONE;
        }
        return isOfKind(past, k) ? past.year : OTHER_KIND;
    }

    public int count(int what) {
        switch (what) {
            case 0:
                return tongueCount;
            case 1:
                return lawCount;
            case 2:
                return eventCount;
            case 3:
                return rootCount;
            case 4:
                return claimCount;
            case 5:
                return now;
            case 6:
                return tapeSize;
            case 7:
                return latest == null ? 0 : latest.ran;
            default:
                return NONE;
        }
    }

    // What there is.

    private static int oneIf(boolean so) {
        return so ? 1 : 0;
    }

    private boolean isTongue(int tongue) {
        return tongue >= 0 && tongue < tongueCount;
    }

    private static boolean isMeaning(int meaning) {
        return meaning >= 0 && meaning < MEANINGS;
    }

    private boolean isLaw(int law) {
        return law >= 0 && law < lawCount;
    }

    private static boolean isSureness(int sure) {
        return sure >= 0 && sure <= MOST_SURE;
    }

    private static boolean isSoundOrNothing(int x) {
        return x >= 0 && x <= LETTERS;
    }

    private static boolean isLetterByte(int sign) {
        return sign >= 'a' && sign <= 'z';
    }

    private static boolean isVowel(int letter) {
        return letter == 'a' - 'a' || letter == 'e' - 'a' || letter == 'i' - 'a'
                || letter == 'o' - 'a' || letter == 'u' - 'a';
    }

    /** The WORD, or null if there is none. */
    private Word spokenWord(int tongue, int meaning) {
        if (!isTongue(tongue) || !isMeaning(meaning)) {
            return null;
        }
        Word place = words[tongue * MEANINGS + meaning];
        return place.size > 0 ? place : null;
    }

    /** The WORD as the LIST has it, or null if it has none. */
    private Word listedWord(int tongue, int meaning) {
        Word spoken = spokenWord(tongue, meaning);
        return spoken == null || spoken.isHole ? null : spoken;
    }

    private Event eventAt(int i) {
        return i >= 0 && i < eventCount ? events[i] : null;
    }

    private static boolean isOfKind(Event past, int kind) {
        switch (kind) {
            case 0:
                return true;
            case 1:
                return past instanceof SoundEvent;
            case 2:
                return past instanceof LoanEvent;
            case 3:
                return past instanceof SplitEvent;
            case 4:
                return past instanceof ShortEvent;
            case 5:
                return past instanceof ForgetEvent;
            case 6:
                return past instanceof CoinEvent;
            default:
                return false;
        }
    }

    // What comes to be.

    private int newTongue(int from, int when) {
        if (tongueCount < MOST_TONGUES) {
            splits[2 * tongueCount] = from;
            splits[2 * tongueCount + 1] = when;
            tongueCount++;
        }
        return tongueCount - 1;
    }

    private void happen(Event fresh) {
        if (eventCount < MOST_EVENTS) {
            events[eventCount] = fresh;
            eventCount++;
        }
    }

    /** The place of the first byte with which the tape is no WORD; -1 if it is one. */
    private int faultOfWord(int size) {
        for (int i = 0; i < size; i++) {
            if (i >= MOST_SOUNDS || !isLetterByte(tape[i])) {
                return i;
            }
        }
        return size == 0 ? 0 : -1;
    }

    // Lists.

    private boolean areKin(Word first, Word second) {
        int longer = Math.max(first.size, second.size);
        return 10 * sides.leastCost(first, second) <= kinLimit * longer;
    }

    /** The TONGUES, as bits, that KIN leads to from this one, itself too. */
    private int kinSet(int meaning, int tongue) {
        int reached = 1 << tongue;
        int spread = 0;
        for (int round = 0; round < tongueCount && spread != reached; round++) {
            int next = Integer.numberOfTrailingZeros(reached & ~spread);
            spread |= 1 << next;
            Word first = listedWord(next, meaning);
            for (int other = 0; other < tongueCount; other++) {
                Word second = listedWord(other, meaning);
                boolean isNew = (reached >> other & 1) == 0;
                if (isNew && first != null && second != null && areKin(first, second)) {
                    reached |= 1 << other;
                }
            }
        }
        return reached;
    }

    /** The MEANINGS, as bits, that both LISTS have. */
    private int meaningsOfBoth(int a, int b) {
        int both = 0;
        for (int meaning = 0; meaning < MEANINGS; meaning++) {
            if (listedWord(a, meaning) != null && listedWord(b, meaning) != null) {
                both |= 1 << meaning;
            }
        }
        return both;
    }

    private int costsTogether(int a, int b, int meanings) {
        int costs = 0;
        for (int meaning = 0; meaning < MEANINGS; meaning++) {
            if ((meanings >> meaning & 1) != 0) {
                costs += cost(meaning, a, b);
            }
        }
        return costs;
    }

    private int costsWithOthers(int tongue, int meaning) {
        int costs = 0;
        for (int other = 0; other < tongueCount; other++) {
            if (listedWord(other, meaning) != null) {
                costs += cost(meaning, tongue, other);
            }
        }
        return costs;
    }

    // Orders.

    /** The told LAWS as the first row: the lower number ahead. */
    private static int[] firstOrder(int told) {
        int[] row = new int[MOST_ORDERED];
        int size = 0;
        for (int law = 0; law < MOST_LAWS && size < MOST_ORDERED; law++) {
            if ((told >> law & 1) != 0) {
                row[size] = law;
                size++;
            }
        }
        return row;
    }

    /** Makes of the row the next one, as rows are ordered by their LAWS; false if it was the last. */
    private static boolean toNextOrder(int[] row, int size) {
        int rise = size - 2;
        while (rise >= 0 && row[rise] > row[rise + 1]) {
            rise--;
        }
        if (rise < 0) {
            return false;
        }
        int above = size - 1;
        while (above > rise && row[above] < row[rise]) {
            above--;
        }
        swap(row, rise, above);
        int low = rise + 1;
        int high = size - 1;
        while (low < high) {
            swap(row, low, high);
            low++;
            high--;
        }
        return true;
    }

    private static void swap(int[] row, int i, int j) {
        int kept = row[i];
        row[i] = row[j];
        row[j] = kept;
    }

    /** The MEANINGS of both LISTS, as bits, whose WORDS the row of LAWS leads to the other's. */
    private int comeOut(int from, int to, int[] row, int size) {
        int out = 0;
        for (int meaning = 0; meaning < MEANINGS; meaning++) {
            Word start = listedWord(from, meaning);
            Word goal = listedWord(to, meaning);
            if (start != null && goal != null) {
                trial.copySounds(start);
                for (int i = 0; i < size; i++) {
                    laws[row[i]].comeOver(trial);
                }
                out |= oneIf(trial.hasSoundsOf(goal)) << meaning;
            }
        }
        return out;
    }

    private boolean isOrderFelt(Word start, Law one, Law other) {
        trial.copySounds(start);
        one.comeOver(trial);
        other.comeOver(trial);
        otherTrial.copySounds(start);
        other.comeOver(otherTrial);
        one.comeOver(otherTrial);
        return !trial.hasSoundsOf(otherTrial);
    }

    // Trees.

    private boolean areLeaves(int tongues) {
        return tongues >>> tongueCount == 0 && Integer.bitCount(tongues) >= LEAST_LEAVES;
    }

    private static int treesOf(int tongues) {
        int leaves = Integer.bitCount(tongues);
        int trees = 1;
        for (int leaf = LEAST_LEAVES; leaf < leaves; leaf++) {
            trees *= Branches.whenSet(leaf);
        }
        return trees;
    }

    /** Gives each leaf its KIN SET of each MEANING, as the bit of the set's least TONGUE. */
    private void hangSets() {
        for (int meaning = 0; meaning < MEANINGS; meaning++) {
            int hung = 0;
            for (int tongue = 0; tongue < tongueCount; tongue++) {
                if (listedWord(tongue, meaning) == null) {
                    branches.hang(meaning, 1 << tongue, ANY_SET);
                } else if ((hung >> tongue & 1) == 0) {
                    int together = kinSet(meaning, tongue);
                    branches.hang(meaning, together, 1 << tongue);
                    hung |= together;
                }
            }
        }
    }

    private int stepsOf(int tongues, int number) {
        branches.grow(tongues, number);
        int taken = 0;
        for (int meaning = 0; meaning < MEANINGS; meaning++) {
            taken += branches.fewestChanges(meaning);
        }
        return taken;
    }

    /** The place of a WORD of a TONGUE and MEANING, with or without one. */
    private static final class Word {
        final int[] letters = new int[MOST_SOUNDS];
        int size;
        int root;
        boolean isLoan;
        // It belongs to the place: it stays whatever becomes of the WORD.
        boolean isHole;

        Word() {
        }

        void readSounds(int[] bytes, int length) {
            size = Math.min(length, MOST_SOUNDS);
            for (int i = 0; i < size; i++) {
                letters[i] = bytes[i] - 'a';
            }
        }

        void copySounds(Word other) {
            size = other.size;
            System.arraycopy(other.letters, 0, letters, 0, MOST_SOUNDS);
        }

        boolean hasSoundsOf(Word other) {
            if (size != other.size) {
                return false;
            }
            for (int i = 0; i < size; i++) {
                if (letters[i] != other.letters[i]) {
                    return false;
                }
            }
            return true;
        }
    }

    /** A LAW: its CHANGES as the bytes of their signs; 0 for a side that may be any. */
    private static final class Law {
        private static final int LOST = -1;
        private static final int ANY_SIDE = 0;

        private final int[] signs = new int[MOST_CHANGES];
        private final int[] becomes = new int[MOST_CHANGES];
        private final int[] lefts = new int[MOST_CHANGES];
        private final int[] rights = new int[MOST_CHANGES];
        private final int[] before = new int[MOST_SOUNDS];
        private int changes;

        Law() {
        }

        /** Reads the LAW; answers -1, or the FAULT, and then it is no LAW. */
        int read(int[] text, int size) {
            int at = 0;
            for (int change = 0; change < MOST_CHANGES; change++) {
                changes = change + 1;
                int end = readChange(text, size, at, change);
                if (end < 0) {
                    return -1 - end;
                }
                if (end == size) {
                    return -1;
                }
                if (byteAt(text, size, end) != ',') {
                    return end;
                }
                at = end + 1;
            }
            // The comma behind the last CHANGE that a LAW can have leads nowhere.
            return at - 1;
        }

        /** Reads a CHANGE; answers where it ends, or -1 less the FAULT. */
        private int readChange(int[] text, int size, int start, int change) {
            signs[change] = byteAt(text, size, start);
            if (!isSign(signs[change])) {
                return -1 - start;
            }
            if (byteAt(text, size, start + 1) != '>') {
                return -1 - (start + 1);
            }
            becomes[change] = byteAt(text, size, start + 2);
            if (!isLetterByte(becomes[change]) && becomes[change] != '0') {
                return -1 - (start + 2);
            }
            lefts[change] = ANY_SIDE;
            rights[change] = ANY_SIDE;
            if (byteAt(text, size, start + 3) != '/') {
                return start + 3;
            }
            return readSides(text, size, start + 4, change);
        }

        private int readSides(int[] text, int size, int start, int change) {
            int at = start;
            if (isSide(byteAt(text, size, at))) {
                lefts[change] = byteAt(text, size, at);
                at++;
            }
            if (byteAt(text, size, at) != '_') {
                return -1 - at;
            }
            at++;
            if (isSide(byteAt(text, size, at))) {
                rights[change] = byteAt(text, size, at);
                at++;
            }
            return at;
        }

        private static int byteAt(int[] text, int size, int at) {
            return at >= 0 && at < size && at < text.length ? text[at] : -1;
        }

        private static boolean isSign(int sign) {
            return isLetterByte(sign) || sign == 'V' || sign == 'C';
        }

        private static boolean isSide(int side) {
            return isSign(side) || side == '#';
        }

        /** Lets the LAW come over a WORD; answers whether it became another one. */
        boolean comeOver(Word changed) {
            int size = changed.size;
            System.arraycopy(changed.letters, 0, before, 0, MOST_SOUNDS);
            int kept = 0;
            boolean other = false;
            for (int at = 0; at < size && at < MOST_SOUNDS; at++) {
                int letter = letterFor(at, size);
                other = other || letter != before[at];
                if (letter != LOST) {
                    changed.letters[kept] = letter;
                    kept++;
                }
            }
            if (kept == 0) {
                return false;
            }
            changed.size = kept;
            return other;
        }

        private int letterFor(int at, int size) {
            for (int change = 0; change < changes; change++) {
                if (isSignOf(signs[change], before[at]) && isBeside(lefts[change], at - 1, size)
                        && isBeside(rights[change], at + 1, size)) {
                    return becomes[change] == '0' ? LOST : becomes[change] - 'a';
                }
            }
            return before[at];
        }

        private boolean isBeside(int side, int at, int size) {
            if (side == ANY_SIDE) {
                return true;
            }
            if (at < 0 || at >= size) {
                return side == '#';
            }
            return isSignOf(side, before[at]);
        }

        private static boolean isSignOf(int sign, int letter) {
            if (sign == 'V') {
                return isVowel(letter);
            }
            if (sign == 'C') {
                return !isVowel(letter);
            }
            return sign - 'a' == letter;
        }
    }

    /** An EVENT, with THE TRACE of the latest act that was its own. */
    private abstract static class Event {
        final int number;
        final int year;
        final int tongueNumber;
        final int lawNumber;
        final int meaningNumber;
        final int[] bodies = new int[KEPT_BODIES];
        int ran;

        Event(int number, int year, int tongueNumber, int lawNumber, int meaningNumber) {
            this.number = number;
            this.year = year;
            this.tongueNumber = tongueNumber;
            this.lawNumber = lawNumber;
            this.meaningNumber = meaningNumber;
        }

        abstract int kindNumber();

        int tells(int x) {
            begin(1);
            return x + number;
        }

        int leads(int x) {
            begin(2);
            return tells(x) - year;
        }

        int marks(int x) {
            begin(3);
            return leads(x) * 2;
        }

        final void begin(int body) {
            if (ran >= 0 && ran < KEPT_BODIES) {
                bodies[ran] = body;
            }
            ran++;
        }
    }

    private static class SoundEvent extends Event {
        SoundEvent(int number, int year, int tongueNumber, int lawNumber, int meaningNumber) {
            super(number, year, tongueNumber, lawNumber, meaningNumber);
        }

        int kindNumber() {
            return 1;
        }

        int tells(int x) {
            begin(11);
            return super.tells(x * 3);
        }
    }

    private static class LoanEvent extends Event {
        LoanEvent(int number, int year, int tongueNumber, int lawNumber, int meaningNumber) {
            super(number, year, tongueNumber, lawNumber, meaningNumber);
        }

        int kindNumber() {
            return 2;
        }

        int leads(int x) {
            begin(21);
            return super.leads(x) ^ 7;
        }
    }

    private static final class SplitEvent extends Event {
        SplitEvent(int number, int year, int tongueNumber, int lawNumber, int meaningNumber) {
            super(number, year, tongueNumber, lawNumber, meaningNumber);
        }

        int kindNumber() {
            return 3;
        }

        int marks(int x) {
            begin(31);
            return -super.marks(x);
        }
    }

    private static final class ShortEvent extends SoundEvent {
        ShortEvent(int number, int year, int tongueNumber, int lawNumber, int meaningNumber) {
            super(number, year, tongueNumber, lawNumber, meaningNumber);
        }

        int kindNumber() {
            return 4;
        }

        int leads(int x) {
            begin(41);
            return super.leads(x - 1) + tells(2);
        }
    }

    private static final class ForgetEvent extends LoanEvent {
        ForgetEvent(int number, int year, int tongueNumber, int lawNumber, int meaningNumber) {
            super(number, year, tongueNumber, lawNumber, meaningNumber);
        }

        int kindNumber() {
            return 5;
        }

        int tells(int x) {
            begin(51);
            return super.tells(x) + number;
        }
    }

    private static final class CoinEvent extends LoanEvent {
        CoinEvent(int number, int year, int tongueNumber, int lawNumber, int meaningNumber) {
            super(number, year, tongueNumber, lawNumber, meaningNumber);
        }

        int kindNumber() {
            return 6;
        }

        int marks(int x) {
            begin(61);
            return super.marks(x + 1) ^ 3;
        }
    }

    /** Lays two WORDS side by side: COST and THE WAY. */
    private static final class SideBySide {
        private static final int WIDTH = MOST_SOUNDS + 1;
        private static final int ALONE = 2;

        // What is left of the WORDS from i and j on costs least[i * WIDTH + j].
        private final int[] least = new int[WIDTH * WIDTH];
        // THE WAY of the latest lay(): 100 times the first one's letter, and the other's.
        final int[] pairs = new int[2 * MOST_SOUNDS];
        int places;

        SideBySide() {
        }

        int leastCost(Word first, Word second) {
            for (int i = first.size; i >= 0; i--) {
                for (int j = second.size; j >= 0; j--) {
                    int costs = ALONE * (first.size - i + second.size - j);
                    if (i < first.size && j < second.size) {
                        int alone = ALONE + Math.min(least[(i + 1) * WIDTH + j], least[i * WIDTH + j + 1]);
                        costs = Math.min(costOfBoth(first, second, i, j), alone);
                    }
                    least[i * WIDTH + j] = costs;
                }
            }
            return least[0];
        }

        private int costOfBoth(Word first, Word second, int i, int j) {
            int letter = first.letters[i];
            int other = second.letters[j];
            int beyond = least[(i + 1) * WIDTH + j + 1];
            if (letter == other) {
                return beyond;
            }
            return beyond + (isVowel(letter) == isVowel(other) ? 1 : 3);
        }

        void lay(Word first, Word second) {
            leastCost(first, second);
            int i = 0;
            int j = 0;
            places = 0;
            while (places < 2 * MOST_SOUNDS && (i < first.size || j < second.size)) {
                int due = least[i * WIDTH + j];
                if (i < first.size && j < second.size && costOfBoth(first, second, i, j) == due) {
                    pairs[places] = 100 * (first.letters[i] + 1) + second.letters[j] + 1;
                    i++;
                    j++;
                } else if (i < first.size && ALONE + least[(i + 1) * WIDTH + j] == due) {
                    pairs[places] = 100 * (first.letters[i] + 1);
                    i++;
                } else if (j < second.size) {
                    pairs[places] = second.letters[j] + 1;
                    j++;
                }
                places++;
            }
        }

        boolean hasPair(int pair) {
            for (int p = 0; p < places; p++) {
                if (pairs[p] == pair) {
                    return true;
                }
            }
            return false;
        }
    }

    /** A TREE: its ends are the TONGUES by number, then the knots as they came. */
    private static final class Branches {
        private static final int FIRST_KNOT = MOST_TONGUES;
        private static final int MOST_KNOTS = MOST_TONGUES - 2;
        private static final int MOST_BRANCHES = 2 * MOST_TONGUES - 3;

        private final int[] starts = new int[MOST_BRANCHES];
        private final int[] ends = new int[MOST_BRANCHES];
        private int size;
        // The branches from the first knot outward: none ahead of the one that it goes on from.
        private final int[] outward = new int[MOST_BRANCHES];
        // The sets, as bits, that the leaves may be of, for each MEANING.
        private final int[] leafSets = new int[MEANINGS * MOST_TONGUES];
        // The sets, as bits, that an end may be of at the least number of changes beyond it.
        private final int[] sets = new int[MOST_TONGUES + MOST_KNOTS];

        Branches() {
        }

        /** How many branches there are when the leaf of that rank (from 0 on) is set; numbers are divided by it. */
        static int whenSet(int rank) {
            return Math.max(1, 2 * rank - 3);
        }

        void hang(int meaning, int tongues, int leafSet) {
            for (int tongue = 0; tongue < MOST_TONGUES; tongue++) {
                if ((tongues >> tongue & 1) != 0) {
                    leafSets[meaning * MOST_TONGUES + tongue] = leafSet;
                }
            }
        }

        void grow(int tongues, int number) {
            size = 0;
            int rank = 0;
            for (int tongue = 0; tongue < MOST_TONGUES; tongue++) {
                if ((tongues >> tongue & 1) != 0) {
                    if (rank < LEAST_LEAVES) {
                        add(FIRST_KNOT, tongue);
                    } else {
                        setOn(digit(tongues, number, rank), tongue, FIRST_KNOT + rank - 2);
                    }
                    rank++;
                }
            }
            orderOutward();
        }

        /** The number's digit of the leaf of that rank: the latest leaf's is the lowest. */
        private static int digit(int tongues, int number, int rank) {
            int rest = number;
            for (int later = Integer.bitCount(tongues) - 1; later > rank; later--) {
                rest /= whenSet(later);
            }
            return rest % whenSet(rank);
        }

        private void add(int start, int end) {
            if (size < MOST_BRANCHES) {
                starts[size] = start;
                ends[size] = end;
                size++;
            }
        }

        private void setOn(int branch, int tongue, int knot) {
            if (branch >= 0 && branch < size) {
                int led = ends[branch];
                ends[branch] = knot;
                add(knot, led);
                add(knot, tongue);
            }
        }

        private void orderOutward() {
            int found = 0;
            for (int at = -1; at < found && at < MOST_BRANCHES; at++) {
                int knot = at < 0 ? FIRST_KNOT : ends[outward[at]];
                for (int branch = 0; branch < size; branch++) {
                    if (starts[branch] == knot && found < MOST_BRANCHES) {
                        outward[found] = branch;
                        found++;
                    }
                }
            }
        }

        /** From the leaves inward: where two ends have no set in common, one change is due between them. */
        int fewestChanges(int meaning) {
            for (int end = 0; end < MOST_TONGUES + MOST_KNOTS; end++) {
                sets[end] = end < MOST_TONGUES ? leafSets[meaning * MOST_TONGUES + end] : ANY_SET;
            }
            int changes = 0;
            for (int at = size - 1; at >= 0; at--) {
                int start = starts[outward[at]];
                int end = ends[outward[at]];
                int common = sets[start] & sets[end];
                if (common == 0) {
                    changes++;
                    sets[start] |= sets[end];
                } else {
                    sets[start] = common;
                }
            }
            return changes;
        }
    }
}
