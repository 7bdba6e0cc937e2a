/** The sentences of "Terms": what bounds TONGUES, MEANINGS, WORDS, YEARS, EVENTS, THE TAPE and LAWS. */
final class TermsBounds {
    private static final int NONE = Bounds.NONE, BAD = Bounds.BAD, STATE = Bounds.STATE, FULL = Bounds.FULL;
    private static final int MIN = Bounds.MIN, MAX = Bounds.MAX;
    private static final String TONGUES_AND_MEANINGS = "5, as they come; MEANINGS 0 .. 9.";
    private static final String A_WORD = "Of a MEANING a TONGUE has a WORD (1 to 8 sounds, letters a to z; a e i o u are VOWELS, others are not) or none.";
    private static final String THE_TRUTH = "THE TRUTH (shut at first) tells of each WORD its ROOT (a number; WORDS of one ROOT are of one word once), and whether it is a LOAN; of each TONGUE from which one it split off (none: it came by itself), and when; and the EVENTS (80 at most, as they come; when there are 80, no more can).";
    private static final String A_LAW = "A LAW is read from THE TAPE (bytes, 80 at most): CHANGES, 6 at most, with , between: a sign, &gt;, a letter or 0, and perhaps / LEFT _ RIGHT.";
    private static final String SIGNS = "Sign: a letter, V (any VOWEL) or C (any that is none). LEFT, RIGHT: none, a letter, V, C, or # (the edge of the WORD). No blanks.";
    private static final int ROOT = -100;
    private static final String LETTERS = "abcdefghijklmnopqrstuvwxyz";
    private static final String TEN = "pata peta pita pota puta pate pete pite pote pute";
    /** One TONGUE with WORDS of all MEANINGS, of ROOTS 0 to 9, and two LAWS that change none. */
    private static final Story ONE = Story.told(TEN).law("z>y").law("x>w");
    private static final Story THREE = ONE.times(2, "split", 0);
    private static final Story SIX = ONE.times(5, "split", 0);

    private final Bounds bounds;

    TermsBounds(Bounds bounds) {
        this.bounds = bounds;
    }

    void ask() {
        tonguesAsTheyCome();
        tonguesAndMeanings();
        soundsOfWords();
        vowels();
        wordOrNone();
        years();
        truthShutAtFirst();
        eightyEvents();
        tape();
        sixChanges();
        everyByteOfLaws();
        noBlanks();
        faultOfLaws();
        twelveLaws();
        whatLawsDo();
        nothingLeft();
        lastCall();
    }

    private void tonguesAsTheyCome() {
        bounds.sentence(TONGUES_AND_MEANINGS);
        Story story = Story.NEW;
        for (int t = 0; t < 6; t++) story = bounds.takes(story, t, "tongue");
        bounds.keeps(story, FULL, "tongue");
        Story mixed = bounds.takes(Story.NEW.then("tongue"), 1, "split", 0);
        mixed = bounds.takes(mixed, 2, "tongue");
        mixed = bounds.takes(mixed, 3, "split", 2);
        mixed = bounds.takes(bounds.takes(mixed, 4, "tongue"), 5, "tongue");
        bounds.keeps(mixed, FULL, "tongue");
        bounds.keeps(mixed, FULL, "split", 0);
    }

    private void tonguesAndMeanings() {
        bounds.sentence(TONGUES_AND_MEANINGS);
        for (Story story : new Story[] {THREE, SIX}) {
            int last = story == SIX ? 5 : 2;
            numbersOf(story.fed("ab"), last, 10, "coin", new int[] {0}, new int[] {1}, 0, 0);
            numbersOf(story, last, 0, "sound", new int[] {0}, new int[] {}, 0, 0);
            numbersOf(story, last, 3, "shorten", new int[] {0}, new int[] {1}, 0, 0);
            numbersOf(story, last, ROOT, "loan", new int[] {1, 2}, new int[] {0}, 0, 0, 1);
            numbersOf(story, last, ROOT, "forget", new int[] {0}, new int[] {1}, 0, 0);
            numbersOf(story, last, 4, "word", new int[] {0}, new int[] {1}, 0, 0, -1);
            numbersOf(story.then("open"), last, ROOT, "truth", new int[] {0}, new int[] {1}, 0, 0, 0);
            numbersOf(story, last, 0, "hole", new int[] {0}, new int[] {1}, 0, 0, 1);
            numbersOf(story, last, 0, "cost", new int[] {1, 2}, new int[] {0}, 0, 0, 1);
            numbersOf(story, last, 4, "way", new int[] {1, 2}, new int[] {0}, 0, 0, 1, -1);
            numbersOf(story, last, 1, "kin", new int[] {1, 2}, new int[] {0}, 0, 0, 1);
            numbersOf(story, last, (2 << last) - 1, "set", new int[] {1}, new int[] {0}, 0, 0);
            numbersOf(story, last, 9, "odds", new int[] {1, 2}, new int[] {0}, 0, 0, 1, 1);
            numbersOf(story, last, 10, "matches", new int[] {0, 1}, new int[] {}, 0, 1, 16, 16);
            numbersOf(story, last, 10, "far", new int[] {0, 1}, new int[] {}, 0, 1, 1);
            numbersOf(story, last, 0, "borrowed", new int[] {1, 2}, new int[] {0}, 0, 0, 1);
            numbersOf(story, last, 0, "old", new int[] {}, new int[] {0}, 0, 1);
            numbersOf(story, last, 10, "best", new int[] {0, 1}, new int[] {}, 0, 1, 1, -1);
            numbersOf(story, last, 0, "feeds", new int[] {0}, new int[] {}, 0, 0, 1);
            numbersOf(story, last, 0, "claim", new int[] {1, 2}, new int[] {0}, 0, 0, 1, 1, 5);
        }
        Story open = SIX.then("open");
        bounds.keeps(open, 0, "from", 5, 0);
        for (int t : new int[] {MIN, -1, 6, MAX}) bounds.keeps(open, NONE, "from", t, 0);
        bounds.takes(THREE, 3, "split", 2);
        for (int t : new int[] {MIN, -1, 3, MAX}) bounds.keeps(THREE, NONE, "split", t);
    }

    /** The call with its TONGUES and MEANINGS at, one above and one below their bounds; a want of ROOT is the MEANING. */
    private void numbersOf(Story story, int last, int want, String name, int[] tonguesAt, int[] meaningsAt, int... base) {
        for (int at : tonguesAt) {
            int first = want == ROOT ? 0 : want;
            bounds.takes(story, first, name, with(base, at, base[at]));
            bounds.takes(story, first, name, with(base, at, last));
            for (int t : new int[] {MIN, -1, last + 1, MAX}) bounds.keeps(story, NONE, name, with(base, at, t));
        }
        for (int at : meaningsAt) {
            for (int m = 0; m < 10; m++) bounds.takes(story, want == ROOT ? m : want, name, with(base, at, m));
            for (int m : new int[] {MIN, -1, 10, MAX}) bounds.keeps(story, NONE, name, with(base, at, m));
        }
    }

    private static Object[] with(int[] base, int at, int number) {
        Object[] given = new Object[base.length];
        for (int i = 0; i < given.length; i++) given[i] = i == at ? number : base[i];
        return given;
    }

    private void soundsOfWords() {
        bounds.sentence(A_WORD);
        Story one = Story.told("kip");
        for (int size = 1; size <= 8; size++) {
            String text = LETTERS.substring(26 - size);
            Story coined = bounds.takes(one.fed(text), 1, "coin", 0, 0);
            bounds.reads(coined, 0, 0, text);
        }
        for (int size = 9; size <= 80; size++) {
            Story refused = bounds.takes(one.fed(LETTERS.repeat(4).substring(0, size)), -18, "coin", 0, 0);
            if (size == 9 || size == 80) bounds.alike(one, refused);
        }
        bounds.alike(one, bounds.takes(one, -10, "coin", 0, 0));
        for (int sign = 0; sign < 256; sign++) {
            boolean letter = sign >= 'a' && sign <= 'z';
            for (int place : new int[] {0, 1, 6, 7}) {
                String text = "abcdefgh".substring(0, place) + (char) sign;
                bounds.takes(one.fed(text), letter ? 1 : -10 - place, "coin", 0, 0);
                bounds.takes(one.fed(text + "z".repeat(7 - place)), letter ? 1 : -10 - place, "coin", 0, 0);
            }
            bounds.takes(one.fed("abcdefgh" + (char) sign), -18, "coin", 0, 0);
        }
    }

    private void vowels() {
        bounds.sentence(A_WORD);
        for (char letter : LETTERS.toCharArray()) {
            boolean vowel = letter == 'a' || letter == 'e' || letter == 'i' || letter == 'o' || letter == 'u';
            Story story = Story.told("" + letter, "a", "b").law("V>x,C>y");
            bounds.keeps(story, letter == 'a' ? 0 : vowel ? 1 : 3, "cost", 0, 0, 1);
            bounds.keeps(story, letter == 'b' ? 0 : vowel ? 3 : 1, "cost", 0, 2, 0);
            bounds.reads(story.then("sound", 0, 0), 0, 0, vowel ? "x" : "y");
        }
    }

    private void wordOrNone() {
        bounds.sentence(A_WORD);
        Story shut = Story.told("pa te", "ko -", "- ti").then("forget", 0, 0);
        Story open = shut.then("open");
        for (int m = 0; m < 10; m++) bounds.keeps(Story.NEW.then("tongue"), NONE, "word", 0, m, -1);
        for (Story story : new Story[] {shut, open}) {
            bounds.keeps(story, NONE, "word", 0, 0, -1);
            bounds.keeps(story, NONE, "word", 0, 0, 0);
            bounds.keeps(story, NONE, "shorten", 0, 0);
            bounds.keeps(story, NONE, "loan", 0, 0, 1);
            bounds.keeps(story, NONE, "forget", 0, 0);
            bounds.keeps(story, NONE, "truth", 0, 0, 0);
            bounds.keeps(story, NONE, "truth", 0, 0, 1);
            for (String name : new String[] {"cost", "kin", "borrowed"}) {
                bounds.keeps(story, NONE, name, 0, 0, 1);
                bounds.keeps(story, NONE, name, 0, 1, 0);
                bounds.keeps(story, NONE, name, 0, 0, 0);
            }
            bounds.keeps(story, NONE, "way", 0, 0, 1, -1);
            bounds.keeps(story, NONE, "way", 0, 1, 0, -1);
            bounds.keeps(story, NONE, "set", 0, 0);
            bounds.keeps(story, NONE, "odds", 0, 0, 1, 0);
            bounds.keeps(story, NONE, "claim", 0, 0, 1, true, 5);
            bounds.keeps(story, NONE, "claim", 0, 1, 0, true, 5);
        }
        bounds.reads(bounds.takes(shut, 2, "loan", 0, 1, 2), 2, 0, "ko");
    }

    private void years() {
        bounds.sentence("YEARS are 0 .. 9999; NOW is 0 at first.");
        bounds.keeps(Story.NEW, 0, "count", 5);
        Story first = Story.told("pa").then("open");
        bounds.keeps(first, 0, "event", 0, 1);
        bounds.keeps(first, 0, "as", 0, 0);
        Story almost = Story.NEW.then("tongue").times(19, "years", 500).then("years", 498);
        bounds.keeps(almost, 9998, "count", 5);
        bounds.keeps(almost, BAD, "years", 2);
        Story last = bounds.takes(almost, 9999, "years", 1);
        bounds.keeps(last, BAD, "years", 1);
        bounds.keeps(last, 9999, "count", 5);
        Story lastWord = last.coin(0, 0, "pa").then("split", 0).then("open");
        bounds.keeps(lastWord, 9999, "event", 0, 1);
        bounds.keeps(lastWord, 9999, "as", 1, 3);
        bounds.keeps(lastWord, 9999, "from", 1, 1);
    }

    private void truthShutAtFirst() {
        bounds.sentence(THE_TRUTH);
        bounds.keeps(Story.NEW, STATE, "sure", 0, 1);
        Story shut = Story.told("pa te", "ki").then("years", 7).then("split", 0).then("loan", 1, 0, 1)
            .then("claim", 0, 0, 2, true, 4);
        for (int what = 0; what < 2; what++) {
            bounds.keeps(shut, STATE, "truth", 1, 1, what);
            bounds.keeps(shut, STATE, "from", 2, what);
        }
        for (int what = 0; what < 5; what++) bounds.keeps(shut, STATE, "event", 4, what);
        bounds.keeps(shut, STATE, "right", 0);
        bounds.keeps(shut, STATE, "sure", 4, 1);
        Story open = bounds.takes(shut, 1, "open");
        bounds.keeps(open, 0, "truth", 0, 0, 0);
        bounds.keeps(open, 0, "truth", 2, 0, 0);
        bounds.keeps(open, 2, "truth", 1, 0, 0);
        bounds.keeps(open, 1, "truth", 1, 1, 0);
        bounds.keeps(open, 1, "truth", 1, 1, 1);
        bounds.keeps(open, 0, "truth", 0, 1, 1);
        bounds.keeps(open, -5, "from", 0, 0);
        bounds.keeps(open, -5, "from", 1, 1);
        bounds.keeps(open, 0, "from", 2, 0);
        bounds.keeps(open, 7, "from", 2, 1);
    }

    /** The last one that there can be may be of any KIND; then none can, but what is no EVENT goes on. */
    private void eightyEvents() {
        bounds.sentence(THE_TRUTH);
        Story most = Story.told("pata peta", "tuk", "-").law("z>y").times(76, "sound", 2, 0).fed("ab");
        bounds.keeps(most, 79, "count", 2);
        Call[] last = {new Call("coin", 2, 5), new Call("sound", 0, 0), new Call("shorten", 0, 0),
            new Call("loan", 0, 0, 1), new Call("forget", 0, 0), new Call("split", 0)};
        int[] kinds = {6, 1, 4, 2, 5, 3};
        for (int i = 0; i < last.length; i++) {
            Story full = most.then(last[i]);
            if (i == 0) full = full.fed("ab");
            bounds.keeps(full, 80, "count", 2);
            bounds.keeps(full.then("open"), kinds[i], "event", 79, 0);
            bounds.keeps(full.then("open"), NONE, "event", 80, 0);
            bounds.keeps(full, FULL, "coin", 2, 6);
            bounds.keeps(full, FULL, "sound", 0, 0);
            bounds.keeps(full, FULL, "shorten", 0, 1);
            bounds.keeps(full, FULL, "loan", 1, 0, 1);
            bounds.keeps(full, FULL, "forget", 0, 1);
            bounds.keeps(full, FULL, "split", 0);
        }
        Story full = most.then("sound", 2, 0);
        bounds.takes(full, 3, "tongue");
        bounds.takes(full, 5, "years", 5);
        bounds.takes(full, 3, "feed", 97, 1);
        bounds.takes(full, -11, "law");
        bounds.takes(full, 0, "hole", 0, 0, true);
        bounds.takes(full, 12, "limit", 3);
        bounds.takes(full, 0, "claim", 0, 0, 1, true, 5);
        bounds.takes(full, 0, "open");
        bounds.takes(full, 79, "act", 79, 0, 0);
    }

    private void tape() {
        bounds.sentence(A_LAW);
        bounds.keeps(Story.NEW, 0, "count", 6);
        for (int size = 72; size <= 80; size++) {
            Story fed = Story.NEW.then("tongue").fed("a".repeat(size));
            bounds.keeps(fed, size, "count", 6);
            for (int n = 1; n <= 8; n++) {
                if (size + n <= 80) bounds.takes(fed, size + n, "feed", 98L, n);
                else bounds.keeps(fed, FULL, "feed", 98L, n);
            }
        }
        // The 80th byte is kept, too: a LAW that would go on with it faults behind it.
        String changes = "a>b,a>b,a>b,a>b,a>b,a>b";
        bounds.takes(Story.NEW.fed(changes + ";".repeat(57)), -10 - 23, "law");
        bounds.takes(Story.NEW.fed("a".repeat(80)), -11, "law");
    }

    private void sixChanges() {
        bounds.sentence(A_LAW);
        String[] changes = {"a>b", "b>c/_", "c>d/V_", "d>e/_C", "e>f/#_#", "f>0"};
        String law = "";
        for (int n = 1; n <= 6; n++) {
            law += (n == 1 ? "" : ",") + changes[n - 1];
            bounds.takes(Story.NEW.fed(law), 0, "law");
            if (n < 6) bounds.takes(Story.NEW.fed(law + ","), -10 - law.length() - 1, "law");
        }
        Story fault = bounds.takes(Story.NEW.fed(law + ","), -10 - law.length(), "law");
        bounds.alike(Story.NEW, fault);
        bounds.takes(Story.NEW.fed(law + ",a>b"), -10 - law.length(), "law");
        String longest = "a>b/c_d,".repeat(6);
        bounds.takes(Story.NEW.fed(longest.substring(0, 47)), 0, "law");
        bounds.takes(Story.NEW.fed(longest), -10 - 47, "law");
        bounds.takes(Story.NEW.fed(longest + "a>b/c_d"), -10 - 47, "law");
        // Each of six CHANGES is one: the last one, too, comes over a WORD.
        Story six = Story.told("abcdefgh").law("a>z,b>y,c>x,d>w,e>v,f>0");
        bounds.reads(bounds.takes(six, 1, "sound", 0, 0), 0, 0, "zyxwvgh");
    }

    /** What may follow what, tried with every byte that there is. */
    private void everyByteOfLaws() {
        bounds.sentence(SIGNS);
        String sign = LETTERS + "VC";
        String[][] goOn = {{"", sign, ""}, {"a", ">", ""}, {"V", ">", ""}, {"C", ">", ""},
            {"a>", LETTERS + "0", LETTERS + "0"}, {"a>b", "/,", ""}, {"a>0", "/,", ""},
            {"a>b/", sign + "#_", "_"}, {"a>b/a", "_", "_"}, {"a>b/V", "_", "_"}, {"a>b/C", "_", "_"}, {"a>b/#", "_", "_"},
            {"a>b/_", sign + "#,", sign + "#"}, {"a>b/a_", sign + "#,", sign + "#"}, {"a>b/#_", sign + "#,", sign + "#"},
            {"a>b/_a", ",", ""}, {"a>b/_V", ",", ""}, {"a>b/_C", ",", ""}, {"a>b/_#", ",", ""}, {"a>b/a_a", ",", ""},
            {"a>b,", sign, ""}, {"a>b/#_#,", sign, ""}, {"a>b,a>b,a>b,a>b,a>b,a>b", "/", ""},
            {"a>b,a>b,a>b,a>b,a>b,a>b/_a", "", ""}};
        for (String[] each : goOn) {
            int size = each[0].length();
            for (int next = 0; next < 256; next++) {
                boolean ends = each[2].indexOf(next) >= 0;
                boolean goes = each[1].indexOf(next) >= 0;
                Story read = bounds.takes(Story.NEW.fed(each[0] + (char) next), ends ? 0 : goes ? -10 - size - 1 : -10 - size, "law");
                bounds.takes(read, 0, "count", 6);
                bounds.takes(read, ends ? 1 : 0, "count", 1);
            }
        }
    }

    private void noBlanks() {
        bounds.sentence(SIGNS);
        String law = "p>b/#_V,C>0/_";
        bounds.takes(Story.NEW.fed(law), 0, "law");
        for (int place = 0; place <= law.length(); place++) {
            Story story = Story.NEW.fed(law.substring(0, place) + " " + law.substring(place));
            bounds.takes(story, -10 - place, "law");
        }
    }

    private void faultOfLaws() {
        bounds.sentence("FAULT: the place of the first byte with which no LAW can go on (the size, if it ends too early).");
        String law = "p>b/#_V,C>0/_";
        for (int size = 0; size <= law.length(); size++) {
            boolean whole = size == 3 || size == 6 || size == 7 || size == 11 || size == 13;
            Story read = bounds.takes(Story.NEW.fed(law.substring(0, size)), whole ? 0 : -10 - size, "law");
            if (!whole) bounds.alike(Story.NEW, read);
        }
        // The first fault counts, whatever comes behind it.
        bounds.takes(Story.NEW.fed("1>b,2>c"), -10, "law");
        bounds.takes(Story.NEW.fed("a>b,2>c"), -14, "law");
        bounds.takes(Story.NEW.fed("a>b,c>d,e"), -19, "law");
    }

    private void twelveLaws() {
        bounds.sentence("LAWS are numbered from 0 on, 12 at most.");
        Story story = Story.told("pa", "pa");
        for (int law = 0; law < 12; law++) {
            bounds.keeps(story, law, "count", 1);
            bounds.keeps(story, NONE, "sound", 0, law);
            bounds.keeps(story, BAD, "best", 0, 1, 1 << law, -1);
            story = bounds.takes(story.fed("a>" + LETTERS.charAt(law)), law, "law");
        }
        bounds.keeps(story, 12, "count", 1);
        Story more = story.fed("b>c");
        bounds.keeps(more, FULL, "law");
        bounds.keeps(more, 3, "count", 6);
        bounds.keeps(story, FULL, "law");
        bounds.reads(bounds.takes(story, 1, "sound", 0, 11), 0, 0, "pl");
        bounds.reads(bounds.takes(story, 0, "sound", 0, 0), 0, 0, "pa");
        bounds.keeps(story, 0, "feeds", 0, 0, 11);
        bounds.keeps(story, 11, "best", 0, 1, 1 << 11, 0);
        for (int law : new int[] {MIN, -1, 12, MAX}) {
            bounds.keeps(story, NONE, "sound", 0, law);
            bounds.keeps(story, NONE, "feeds", 0, law, 0);
            bounds.keeps(story, NONE, "feeds", 0, 0, law);
        }
        bounds.keeps(story, BAD, "best", 0, 1, 1 << 12, 0);
    }

    private void leads(String law, String word, String want) {
        Story story = Story.told(word).law(law);
        bounds.reads(bounds.takes(story, word.equals(want) ? 0 : 1, "sound", 0, 0), 0, 0, want);
    }

    private void whatLawsDo() {
        bounds.sentence("By a LAW each sound of a WORD becomes, by the first CHANGE whose sign it is and of which LEFT and RIGHT (none: any) stand beside it (in the WORD as it was ahead of the LAW), that letter, or (0) is lost; else it stays.");
        leads("a>o", "aaaaaaaa", "oooooooo");
        leads("a>o/#_", "aaaaaaaa", "oaaaaaaa");
        leads("a>o/_#", "aaaaaaaa", "aaaaaaao");
        leads("a>o/#_#", "aa", "aa");
        leads("a>o/#_#", "a", "o");
        leads("a>o/_", "a", "o");
        leads("a>o/V_", "aaa", "aoo");
        leads("a>o/_V", "aaa", "ooa");
        leads("a>o/C_", "aba", "abo");
        leads("a>o/_C", "aba", "oba");
        leads("a>o/a_a", "aaaa", "aooa");
        leads("a>o/V_", "a", "a");
        leads("a>o/_C", "a", "a");
        leads("a>o/a_", "a", "a");
        leads("a>b/b_", "baaa", "bbaa");
        leads("a>b,b>a", "abab", "baba");
        leads("a>o/#_,a>u/_#,a>i", "aaa", "oiu");
        leads("V>e/#_,a>o", "aa", "eo");
        leads("a>a,V>e", "aio", "aee");
        leads("z>0,y>z", "zy", "z");
        leads("a>0/_a", "aaaaaaaa", "a");
        leads("k>g", "pata", "pata");
        leads("p>p", "pata", "pata");
    }

    private void nothingLeft() {
        bounds.sentence("If no sound were left, the WORD stays as it was.");
        Story story = Story.told("a ab abcdefgh pa", "a a h p", "- b").law("V>0,C>0").law("V>0").law("V>e").law("C>0");
        Story after = bounds.takes(story, 0, "sound", 0, 0);
        for (int m = 0; m < 3; m++) bounds.reads(after, 0, m, "abcdefgh".substring(0, new int[] {1, 2, 8}[m]));
        bounds.keeps(after, 10, "count", 2);
        after = bounds.takes(story, 3, "sound", 0, 1);
        bounds.reads(after, 0, 0, "a");
        bounds.reads(after, 0, 1, "b");
        bounds.reads(after, 0, 2, "bcdfgh");
        // ORDERS, too: of a, ab, abcdefgh, pa nothing would be left of a alone.
        bounds.keeps(story, 1, "best", 0, 1, 1, -1);
        bounds.keeps(story, 14, "best", 0, 1, 1, -2);
        bounds.keeps(story, 2, "best", 0, 1, 2, -1);
        bounds.keeps(story, 6, "best", 0, 1, 2, -2);
        bounds.keeps(story, 1, "best", 0, 2, 2, -1);
        // ab: V>0 ahead of C>0 leaves b, which stays; the other way round a does.
        bounds.keeps(story, 1, "feeds", 0, 1, 3);
        // a: V>0 leaves it, so V>e makes e of it in either order.
        bounds.keeps(Story.told("a").law("V>0").law("V>e"), 0, "feeds", 0, 0, 1);
    }

    private void lastCall() {
        bounds.sentence("An object is used for at most 512 calls after it has been made; what later calls answer is free.");
        Story story = new World(31).story;
        String[] dear = {"tree", "best", "old", "set"};
        Object[][] given = {{63, 2}, {0, 1, 15, 3}, {0, 1}, {0, 0}};
        for (int i = 0; story.size() < Story.MOST_CALLS - 1; i++) story = story.then(dear[i % 4], given[i % 4]);
        bounds.takes(story, 6, "count", 0);
        bounds.takes(story, 3, "best", 0, 1, 15, 3);
        bounds.takes(story, 3, "set", 0, 0);
        bounds.takes(story, FULL, "split", 0);
        bounds.takes(story, 60, "years", 30);
        bounds.takes(story, 103, "act", 79, 0, 8);
    }
}
