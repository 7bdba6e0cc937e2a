/** For each promise of the document what it asks for, worked out by hand: ordinary inputs, edges and wrong ones. */
public final class PromisesTest {
    private static final Due DUE = new Due("PromisesTest");
    private static final int NONE = -1, BAD = -2, STATE = -3, FULL = -4;

    private static void is(String call, long got, long want) {
        DUE.is(call, got, want);
    }

    private static void reads(String what, SmallTongues x, int tongue, int meaning, String want) {
        String got = Due.word(x, tongue, meaning);
        DUE.so(what + ": '" + got + "' should be '" + want + "'", got.equals(want));
    }

    private static SmallTongues tongues(int n) {
        SmallTongues x = new SmallTongues();
        for (int t = 0; t < n; t++) x.tongue();
        return x;
    }

    /** TONGUES with one row of WORDS each, of MEANINGS 0 on; an empty one is none. */
    private static SmallTongues told(String... rows) {
        SmallTongues x = tongues(rows.length);
        for (int t = 0; t < rows.length; t++) {
            String[] words = rows[t].split(" ", -1);
            for (int m = 0; m < words.length; m++) {
                if (!words[m].isEmpty() && !words[m].equals("-")) Due.coin(x, t, m, words[m]);
            }
        }
        return x;
    }

    /** With as many EVENTS as there can be, and a TAPE that is empty. */
    private static void fillEvents(SmallTongues x) {
        while (x.count(2) < 80) Due.coin(x, 0, 9, "z");
    }

    private static String led(String law, String word) {
        SmallTongues x = told(word);
        is("law " + law, Due.law(x, law), 0);
        x.sound(0, 0);
        return Due.word(x, 0, 0);
    }

    private static void leads(String law, String word, String want) {
        String got = led(law, word);
        DUE.so(law + " leads " + word + " to " + got + ", due is " + want, got.equals(want));
    }

    private static void p1NewObject() {
        SmallTongues x = new SmallTongues();
        for (int what = 0; what < 8; what++) is("count " + what, x.count(what), 0);
        is("no tongue", x.word(0, 0, -1), NONE);
        is("no hole's tongue", x.hole(0, 0, true), NONE);
        is("the truth is shut", x.sure(0, 1), STATE);
        is("limit at first", x.limit(12), 12);
        is("no trace", x.trace(0), NONE);
        is("no old form", x.old(0, 0), -5);
    }

    private static void p2Tongue() {
        SmallTongues x = new SmallTongues();
        for (int t = 0; t < 6; t++) is("tongue", x.tongue(), t);
        is("seventh", x.tongue(), FULL);
        is("there are", x.count(0), 6);
        is("no event", x.count(2), 0);
        for (int m = 0; m < 10; m++) is("without words", x.word(5, m, -1), NONE);
    }

    private static void p3Years() {
        SmallTongues x = new SmallTongues();
        is("none", x.years(0), BAD);
        is("below", x.years(-1), BAD);
        is("too many", x.years(501), BAD);
        is("wraps", x.years(Integer.MAX_VALUE), BAD);
        is("one", x.years(1), 1);
        is("most", x.years(500), 501);
        for (int i = 0; i < 18; i++) x.years(500);
        is("far on", x.years(498), 9999);
        is("beyond", x.years(1), BAD);
        is("now stays", x.count(5), 9999);
        SmallTongues y = new SmallTongues();
        for (int i = 0; i < 19; i++) y.years(500);
        is("just beyond", y.years(500), BAD);
        is("just not", y.years(499), 9999);
    }

    private static void p4Feed() {
        SmallTongues x = tongues(1);
        is("no bytes", x.feed(5, 0), BAD);
        is("nine", x.feed(5, 9), BAD);
        is("the lowest two of more", x.feed(0x7a7a6263L, 2), 2);
        is("behind", x.feed(0x61L, 1), 3);
        is("coin", x.coin(0, 0), 0);
        reads("highest first", x, 0, 0, "bca");
        for (int i = 0; i < 9; i++) x.feed(-1L, 8);
        is("most but one", x.feed(-1L, 7), 79);
        is("over", x.feed(-1L, 2), FULL);
        is("bad ahead of full", x.feed(-1L, 9), BAD);
        is("stays", x.count(6), 79);
        is("last", x.feed(-1L, 1), 80);
        is("full", x.feed(-1L, 1), FULL);
        SmallTongues y = tongues(1);
        is("all eight", y.feed(0xff61626364656667L, 8), 8);
        is("a byte above 127 is no letter", y.coin(0, 0), -10);
    }

    private static void p5Law() {
        SmallTongues x = new SmallTongues();
        is("empty", x.law(), -10);
        String[] faulty = {"A>b", "p", "p<b", "p>", "p>V", "p>1", "p>b ", "p>b/", "p>b/a", "p>b/aa_", "p>b/_aa", "p>b/a_b,",
            "p>b/0_", "V>C", "p>b,,", "#>b", "p>b/_#_", "p>b;", " p>b", "p>b/V_>", "p>#"};
        int[] fault = {0, 1, 1, 2, 2, 2, 3, 4, 5, 5, 6, 8, 4, 2, 4, 0, 6, 3, 0, 6, 2};
        for (int i = 0; i < faulty.length; i++) is("fault of " + faulty[i], Due.law(x, faulty[i]), -10 - fault[i]);
        is("empty then", x.count(6), 0);
        is("seven changes", Due.law(x, "a>b,a>b,a>b,a>b,a>b,a>b,a>b"), -10 - 23);
        is("six and a comma", Due.law(x, "a>b,a>b,a>b,a>b,a>b,a>b,"), -10 - 23);
        is("six and more", Due.law(x, "a>b,a>b,a>b,a>b,a>b,a>bb"), -10 - 23);
        is("no laws yet", x.count(1), 0);
        String[] good = {"a>b", "a>0", "V>a", "C>0", "a>b/_", "a>b/a_", "a>b/_a", "a>b/#_#", "a>b/V_C", "a>b/C_V,z>a/_#",
            "a>b/a_a,a>b/a_a,a>b/a_a,a>b/a_a,a>b/a_a,a>b/a_a", "z>z"};
        for (int i = 0; i < good.length; i++) is("law " + good[i], Due.law(x, good[i]), i);
        is("laws", x.count(1), 12);
        is("full", Due.law(x, "a>b"), FULL);
        is("the tape stays", x.count(6), 3);
        is("full, faulty too", Due.law(x, "a"), FULL);
        is("the tape stays again", x.count(6), 4);
    }

    private static void lawsLead() {
        leads("p>f,t>d", "pater", "fader");
        leads("a>e,e>i", "ae", "ei");
        leads("V>o,a>e", "pater", "potor");
        leads("a>a,V>o", "pater", "pator");
        leads("C>x", "abey", "axex");
        leads("a>0", "banana", "bnn");
        leads("V>0", "aei", "aei");
        leads("V>0,C>0", "pa", "pa");
        leads("p>f/#_", "papap", "fapap");
        leads("p>f/_#", "papap", "papaf");
        leads("p>f/V_V", "papap", "pafap");
        leads("p>f/C_", "pap", "pap");
        leads("p>f/C_", "tpp", "tff");
        leads("a>b/b_", "baaa", "bbaa");
        leads("a>0/_a", "aaa", "a");
        leads("a>o/p_r", "parpat", "porpat");
        leads("a>o/#_#", "a", "o");
        leads("a>o/#_#", "aa", "aa");
        leads("p>f/_V,p>b", "pappi", "fabfi");
        leads("p>0/#_,a>p", "pa", "p");
    }

    private static void p6Coin() {
        SmallTongues x = tongues(2);
        is("root 0", Due.coin(x, 0, 0, "a"), 0);
        is("root 1", Due.coin(x, 1, 9, "abcdxyzz"), 1);
        reads("eight", x, 1, 9, "abcdxyzz");
        is("empty then", x.count(6), 0);
        is("in place", Due.coin(x, 0, 0, "no"), 2);
        reads("in place", x, 0, 0, "no");
        is("none", x.coin(0, 1), -10);
        is("no letter", Due.coin(x, 0, 1, "ab`d"), -12);
        is("nor this", Due.coin(x, 0, 1, "{"), -10);
        is("nor great", Due.coin(x, 0, 1, "aB"), -11);
        is("empty then, too", x.count(6), 0);
        is("nine", Due.coin(x, 0, 1, "abcdefghi"), -18);
        is("nine and a fault ahead", Due.coin(x, 0, 1, "abc1efghi"), -13);
        is("nine and a fault behind", Due.coin(x, 0, 1, "abcdefghi1"), -18);
        is("no word came", x.word(0, 1, -1), NONE);
        is("events", x.count(2), 3);
        Due.feed(x, "ab1");
        is("no tongue", x.coin(2, 0), NONE);
        is("no tongue below", x.coin(-1, 0), NONE);
        is("no meaning", x.coin(0, 10), NONE);
        is("no meaning below", x.coin(0, -1), NONE);
        is("the tape stays", x.count(6), 3);
        x.coin(0, 5);
        fillEvents(x);
        int roots = x.count(3);
        is("full", Due.coin(x, 0, 1, "ab"), FULL);
        is("tape stays with full", x.count(6), 2);
        is("none ahead of full", x.coin(0, 10), NONE);
        is("no root", x.count(3), roots);
        x.open();
        is("a coin", x.event(1, 0), 6);
        is("its tongue", x.event(1, 2), 1);
        is("its law", x.event(1, 3), -5);
        is("its meaning", x.event(1, 4), 9);
        SmallTongues y = told("pa", "ta");
        y.loan(0, 0, 1);
        Due.coin(y, 1, 0, "ka");
        y.open();
        is("coined in place of a loan", y.truth(1, 0, 1), 0);
        is("of a new root", y.truth(1, 0, 0), 2);
    }

    private static void p7Sound() {
        SmallTongues x = told("pa ta ka aa - pi", "pa");
        Due.law(x, "p>b,t>t,k>0");
        x.hole(0, 5, true);
        is("became others", x.sound(0, 0), 3);
        reads("changed", x, 0, 0, "ba");
        reads("kept", x, 0, 1, "ta");
        reads("lost", x, 0, 2, "a");
        reads("a hole, too", x, 0, 5, "bi");
        reads("not another tongue", x, 1, 0, "pa");
        is("again", x.sound(0, 0), 0);
        is("events", x.count(2), 8);
        is("no law", x.sound(0, 1), NONE);
        is("no law below", x.sound(0, -1), NONE);
        is("no tongue", x.sound(2, 0), NONE);
        fillEvents(x);
        is("full", x.sound(1, 0), FULL);
        is("none ahead", x.sound(1, 12), NONE);
        reads("nothing changed", x, 1, 0, "pa");
        x.open();
        is("kind", x.event(6, 0), 1);
        is("tongue", x.event(6, 2), 0);
        is("law", x.event(6, 3), 0);
        is("meaning", x.event(6, 4), -5);
    }

    private static void p8Shorten() {
        SmallTongues x = told("pat", "a");
        is("left", x.shorten(0, 0), 2);
        reads("the last", x, 0, 0, "pa");
        is("left", x.shorten(0, 0), 1);
        is("one", x.shorten(0, 0), STATE);
        is("one from the first", x.shorten(1, 0), STATE);
        is("no word", x.shorten(0, 1), NONE);
        is("no meaning", x.shorten(0, 10), NONE);
        is("no tongue", x.shorten(2, 0), NONE);
        is("events", x.count(2), 4);
        Due.coin(x, 0, 1, "ab");
        fillEvents(x);
        is("state ahead of full", x.shorten(0, 0), STATE);
        is("full", x.shorten(0, 1), FULL);
        reads("stays", x, 0, 1, "ab");
        x.open();
        is("kind", x.event(2, 0), 4);
        is("law", x.event(2, 3), -5);
        is("meaning", x.event(2, 4), 0);
        is("root stays", x.truth(0, 0, 0), 0);
    }

    private static void p9Loan() {
        SmallTongues x = told("pa te", "- ki", "-");
        is("root", x.loan(0, 0, 1), 0);
        reads("came", x, 1, 0, "pa");
        is("in place", x.loan(1, 0, 1), 1);
        reads("in place", x, 1, 1, "te");
        is("of a loan", x.loan(0, 1, 2), 0);
        is("one tongue", x.loan(0, 0, 0), BAD);
        is("one tongue, no word", x.loan(5, 0, 0), NONE);
        is("no word", x.loan(2, 0, 1), NONE);
        is("no tongue", x.loan(0, 0, 3), NONE);
        is("nor from", x.loan(0, 3, 0), NONE);
        is("no meaning", x.loan(10, 0, 1), NONE);
        is("events", x.count(2), 6);
        fillEvents(x);
        is("bad ahead of full", x.loan(0, 0, 0), BAD);
        is("full", x.loan(0, 0, 1), FULL);
        x.open();
        is("a loan", x.truth(1, 0, 1), 1);
        is("its root", x.truth(1, 1, 0), 1);
        is("none lent", x.truth(0, 0, 1), 0);
        is("kind", x.event(3, 0), 2);
        is("to", x.event(3, 2), 1);
        is("meaning", x.event(4, 4), 1);
        is("no law", x.event(4, 3), -5);
    }

    private static void p10Forget() {
        SmallTongues x = told("pa te");
        is("root", x.forget(0, 1), 1);
        is("gone", x.word(0, 1, -1), NONE);
        is("once", x.forget(0, 1), NONE);
        is("no tongue", x.forget(1, 0), NONE);
        is("no meaning", x.forget(0, -1), NONE);
        fillEvents(x);
        is("full", x.forget(0, 0), FULL);
        is("none ahead", x.forget(0, 1), NONE);
        reads("stays", x, 0, 0, "pa");
        x.open();
        is("kind", x.event(2, 0), 5);
        is("meaning", x.event(2, 4), 1);
        is("no truth of it", x.truth(0, 1, 0), NONE);
    }

    private static void p11Split() {
        SmallTongues x = told("pa te", "ku");
        x.loan(0, 1, 0);
        x.hole(0, 1, true);
        x.years(70);
        is("number", x.split(0), 2);
        reads("the same", x, 2, 0, "ku");
        reads("a hole, too", x, 2, 1, "te");
        is("the hole stays with the other", x.cost(1, 2, 2), 0);
        x.shorten(2, 1);
        reads("its own", x, 0, 1, "te");
        x.years(5);
        is("of it", x.split(2), 3);
        is("no tongue", x.split(4), NONE);
        x.split(0);
        x.tongue();
        is("full of tongues", x.split(0), FULL);
        is("none ahead", x.split(6), NONE);
        is("no event", x.count(2), 8);
        SmallTongues y = tongues(1);
        fillEvents(y);
        is("full of events", y.split(0), FULL);
        is("no tongue then", y.count(0), 1);
        x.open();
        is("from", x.from(2, 0), 0);
        is("when", x.from(2, 1), 70);
        is("later", x.from(3, 1), 75);
        is("a loan stays", x.truth(3, 0, 1), 1);
        is("the others, too", x.truth(3, 1, 1), 0);
        is("roots", x.truth(3, 1, 0), 1);
        is("kind", x.event(4, 0), 3);
        is("that which split off", x.event(4, 2), 2);
        is("law", x.event(4, 3), -5);
        is("meaning", x.event(4, 4), -5);
    }

    private static void p12Word() {
        SmallTongues x = told("azb");
        x.hole(0, 0, true);
        is("size", x.word(0, 0, -1), 3);
        is("a", x.word(0, 0, 0), 0);
        is("z", x.word(0, 0, 1), 25);
        is("last", x.word(0, 0, 2), 1);
        is("beyond", x.word(0, 0, 3), NONE);
        is("below", x.word(0, 0, -2), NONE);
        is("no word", x.word(0, 1, -1), NONE);
        is("no meaning", x.word(0, 10, -1), NONE);
        is("no tongue", x.word(1, 0, -1), NONE);
    }

    private static void p13Open() {
        SmallTongues x = told("pa", "pa");
        x.claim(0, 0, 1, true, 3);
        x.claim(0, 0, 1, true, 3);
        is("claims", x.open(), 2);
        is("open", x.open(), STATE);
        is("the world goes on", x.shorten(0, 0), 1);
    }

    private static void p14Truth() {
        SmallTongues x = told("pa", "te ki");
        is("shut", x.truth(0, 0, 0), STATE);
        is("none ahead of shut", x.truth(0, 1, 0), NONE);
        is("what ahead of shut", x.truth(0, 0, 2), NONE);
        x.open();
        is("root", x.truth(1, 1, 0), 2);
        is("no loan", x.truth(1, 1, 1), 0);
        x.loan(1, 1, 0);
        is("a loan", x.truth(0, 1, 1), 1);
        x.hole(0, 1, true);
        is("holes do not matter", x.truth(0, 1, 0), 2);
        is("what below", x.truth(0, 0, -1), NONE);
        is("no tongue", x.truth(2, 0, 0), NONE);
        is("no meaning", x.truth(0, 10, 0), NONE);
    }

    private static void p15From() {
        SmallTongues x = tongues(1);
        x.years(9);
        x.split(0);
        is("shut", x.from(0, 0), STATE);
        is("none ahead", x.from(2, 0), NONE);
        is("what ahead", x.from(0, 2), NONE);
        x.open();
        is("by itself", x.from(0, 0), -5);
        is("never", x.from(0, 1), -5);
        is("from", x.from(1, 0), 0);
        is("when", x.from(1, 1), 9);
        is("what below", x.from(1, -1), NONE);
    }

    private static void p16Event() {
        SmallTongues x = told("pa");
        x.years(3);
        x.shorten(0, 0);
        is("shut", x.event(0, 0), STATE);
        is("none ahead", x.event(2, 0), NONE);
        is("what ahead", x.event(0, 5), NONE);
        x.open();
        int[] coin = {6, 0, 0, -5, 0};
        int[] shorter = {4, 3, 0, -5, 0};
        for (int what = 0; what < 5; what++) {
            is("coin " + what, x.event(0, what), coin[what]);
            is("short " + what, x.event(1, what), shorter[what]);
        }
        is("none below", x.event(-1, 0), NONE);
        is("what below", x.event(0, -1), NONE);
    }

    private static void p17Limit() {
        SmallTongues x = new SmallTongues();
        is("at first", x.limit(0), 12);
        is("then", x.limit(60), 0);
        is("beyond", x.limit(61), BAD);
        is("below", x.limit(-1), BAD);
        is("stays", x.limit(7), 60);
    }

    private static void p18Hole() {
        SmallTongues x = told("pa");
        is("was not", x.hole(0, 0, true), 0);
        is("was", x.hole(0, 0, true), 1);
        is("no list has it", x.cost(0, 0, 0), NONE);
        Due.coin(x, 0, 0, "ta");
        is("stays with a new word", x.cost(0, 0, 0), NONE);
        is("was, too", x.hole(0, 0, false), 1);
        is("was not, again", x.hole(0, 0, false), 0);
        is("back", x.cost(0, 0, 0), 0);
        is("without a word", x.hole(0, 9, true), 0);
        is("no tongue", x.hole(1, 0, true), NONE);
        is("no meaning", x.hole(0, 10, true), NONE);
    }

    private static int costOf(String a, String b) {
        return told(a, b).cost(0, 0, 1);
    }

    private static void p19Cost() {
        is("like", costOf("pater", "pater"), 0);
        is("consonants", costOf("p", "b"), 1);
        is("vowels", costOf("a", "u"), 1);
        is("unlike kinds", costOf("a", "b"), 3);
        is("y is none", costOf("y", "b"), 1);
        for (char letter = 'a'; letter <= 'z'; letter++) {
            boolean vowel = "aeiou".indexOf(letter) >= 0;
            is("kind of " + letter, costOf("" + letter, "a"), letter == 'a' ? 0 : vowel ? 1 : 3);
            leads("V>x,C>y", "" + letter, vowel ? "x" : "y");
        }
        is("nothing", costOf("pa", "p"), 2);
        is("gone over", costOf("ab", "ba"), 4);
        is("all", costOf("a", "bbbbbbbb"), 17);
        is("longest", costOf("aaaaaaaa", "bbbbbbbb"), 24);
        SmallTongues x = told("pa ta", "pi");
        is("one tongue", x.cost(1, 0, 0), 0);
        is("no word", x.cost(1, 0, 1), NONE);
        is("no tongue", x.cost(0, 0, 2), NONE);
        is("no meaning", x.cost(10, 0, 1), NONE);
        x.hole(1, 0, true);
        is("a hole", x.cost(0, 0, 1), NONE);
    }

    private static void wayIs(String a, String b, int... want) {
        SmallTongues x = told(a, b);
        is("places of " + a + " " + b, x.way(0, 0, 1, -1), want.length);
        for (int i = 0; i < want.length; i++) is("way of " + a + " " + b + " at " + i, x.way(0, 0, 1, i), want[i]);
        is("no more", x.way(0, 0, 1, want.length), NONE);
        is("below", x.way(0, 0, 1, -2), NONE);
    }

    private static void p20Way() {
        wayIs("pa", "ba", 1602, 101);
        wayIs("pa", "p", 1616, 100);
        wayIs("p", "pa", 1616, 1);
        // ab ba costs 4: a-, bb, -a; or -b, aa, b-; the first one's alone goes first. Both at once would cost 6.
        wayIs("ab", "ba", 100, 202, 1);
        wayIs("a", "bbb", 102, 2, 2);
        wayIs("aa", "a", 101, 100);
        wayIs("bbab", "ab", 200, 200, 101, 202);
        wayIs("ppppaaaa", "aaaapppp", 1600, 1600, 1600, 1600, 101, 101, 101, 101, 16, 16, 16, 16);
        SmallTongues x = told("pa ta", "pi");
        is("one tongue", x.way(0, 0, 0, 1), 101);
        is("no word", x.way(1, 0, 1, -1), NONE);
        is("no tongue", x.way(0, 2, 1, -1), NONE);
    }

    private static void p21Kin() {
        // Five sounds: LIMIT 12 allows COST 6.
        SmallTongues x = told("ppppp ppppp pa", "bbbbbpp bbbbb po");
        x.limit(10);
        is("as much", x.kin(1, 0, 1), 1);
        x.limit(9);
        is("more", x.kin(1, 0, 1), 0);
        // COST 5 + 4 (two alone) and seven sounds; but laid otherwise 3 + 4: the two p beside p.
        is("cost of the longer", x.cost(0, 0, 1), 7);
        x.limit(10);
        is("the longer's sounds count", x.kin(0, 0, 1), 1);
        is("both ways", x.kin(0, 1, 0), 1);
        x.limit(0);
        is("none at 0", x.kin(2, 0, 1), 0);
        is("one tongue", x.kin(0, 0, 0), BAD);
        is("one tongue without a word", x.kin(5, 0, 0), NONE);
        is("no word", x.kin(5, 0, 1), NONE);
        is("no tongue", x.kin(0, 0, 2), NONE);
        x.hole(0, 0, true);
        is("a hole", x.kin(0, 0, 1), NONE);
        SmallTongues y = told("pa", "pa");
        y.limit(0);
        is("like ones at 0", y.kin(0, 0, 1), 1);
    }

    private static void p22Set() {
        // 0 - 1 COST 1, 1 - 2 COST 1, 0 - 2 COST 2; two sounds at LIMIT 5 allow COST 1.
        SmallTongues x = told("pa", "ba", "be", "ku", "-");
        x.limit(5);
        is("not kin", x.kin(0, 0, 2), 0);
        is("through others", x.set(0, 0), 7);
        is("from the other", x.set(0, 2), 7);
        is("alone", x.set(0, 3), 8);
        is("no word", x.set(0, 4), NONE);
        is("no tongue", x.set(0, 5), NONE);
        is("no meaning", x.set(10, 0), NONE);
        x.hole(1, 0, true);
        is("not through a hole", x.set(0, 0), 1);
        is("of a hole", x.set(0, 1), NONE);
    }

    private static void p23Odds() {
        SmallTongues x = told("pa te", "pa ba ku pa", "-");
        x.limit(5);
        is("would be", x.odds(0, 0, 1, 0), 2);
        is("of", x.odds(0, 0, 1, 1), 3);
        is("other meaning", x.odds(1, 0, 1, 1), 3);
        x.hole(1, 3, true);
        is("holes are not there", x.odds(0, 0, 1, 0), 1);
        is("nor counted", x.odds(0, 0, 1, 1), 2);
        is("second without that word", x.odds(1, 0, 2, 1), 0);
        is("of one tongue", x.odds(0, 0, 0, 1), 1);
        is("what", x.odds(0, 0, 1, 2), NONE);
        is("what below", x.odds(0, 0, 1, -1), NONE);
        is("no word", x.odds(2, 0, 1, 0), NONE);
        is("no tongue", x.odds(0, 0, 3, 0), NONE);
        is("no meaning", x.odds(10, 0, 1, 0), NONE);
    }

    private static void p24Matches() {
        // p is 16, b is 2, a is 1. The fifth one is not KIN at LIMIT 12: COST 6, two sounds.
        SmallTongues x = told("papa pa ta pat pa", "baba ba pa pa ab");
        is("each meaning once", x.matches(0, 1, 16, 2), 2);
        is("the other way", x.matches(1, 0, 16, 2), 0);
        is("like ones", x.matches(0, 1, 1, 1), 4);
        is("beside nothing", x.matches(0, 1, 20, 0), 1);
        is("nothing beside", x.matches(0, 1, 0, 1), 0);
        is("nothing beside, turned", x.matches(1, 0, 0, 20), 1);
        x.hole(1, 0, true);
        is("holes", x.matches(0, 1, 16, 2), 1);
        is("both nothing", x.matches(0, 1, 0, 0), BAD);
        is("x beyond", x.matches(0, 1, 27, 1), BAD);
        is("y beyond", x.matches(0, 1, 1, 27), BAD);
        is("x below", x.matches(0, 1, -1, 1), BAD);
        is("y below", x.matches(0, 1, 1, -1), BAD);
        is("last letter", x.matches(0, 1, 26, 26), 0);
        is("one tongue", x.matches(0, 0, 1, 1), BAD);
        is("no tongue", x.matches(0, 2, 0, 0), NONE);
        is("none ahead of bad", x.matches(2, 2, 27, 0), NONE);
    }

    private static void p25Far() {
        SmallTongues x = told("pa te - ki", "ba tu ko k", "-");
        is("costs", x.far(0, 1, 0), 4);
        is("how many", x.far(0, 1, 1), 3);
        is("none in common", x.far(0, 2, 0), 0);
        is("none at all", x.far(0, 2, 1), 0);
        x.hole(0, 3, true);
        is("holes", x.far(1, 0, 0), 2);
        is("fewer", x.far(1, 0, 1), 2);
        is("one tongue", x.far(0, 0, 0), BAD);
        is("what ahead", x.far(0, 0, 2), NONE);
        is("no tongue", x.far(0, 3, 0), NONE);
        is("what below", x.far(0, 1, -1), NONE);
    }

    private static void p26Borrowed() {
        // Others: pat and kuk cost 3, tip and a cost 5 (beside one of its own kind 1, two alone 4): more than 4.
        SmallTongues x = told("pa pat tip pe", "pa kuk a pi", "pa");
        is("seems so", x.borrowed(0, 0, 1), 1);
        is("unlike", x.borrowed(3, 0, 1), 0);
        x.hole(0, 3, true);
        is("more than twice two", x.borrowed(0, 0, 1), 1);
        x.hole(1, 2, true);
        is("one other only", x.borrowed(0, 0, 1), 0);
        is("no other", x.borrowed(0, 0, 2), 0);
        // Others cost 3 and 1: no more than 4.
        SmallTongues y = told("pa pat pe", "pa kuk pi");
        is("just not", y.borrowed(0, 0, 1), 0);
        // Three others cost 3, 2 and 1: no more than 6.
        is("just not of three", told("pa pat pe ta", "pa kuk bi da").borrowed(0, 0, 1), 0);
        is("one tongue", y.borrowed(0, 0, 0), BAD);
        is("one tongue without a word", y.borrowed(5, 0, 0), NONE);
        is("no word of its own", x.borrowed(1, 2, 0), NONE);
        is("no word of the other", x.borrowed(1, 0, 2), NONE);
        is("no tongue", x.borrowed(0, 3, 0), NONE);
        is("no meaning", x.borrowed(10, 0, 1), NONE);
    }

    private static void p27Old() {
        // COSTS: 0 with 1 2, 1 with 2 1, 0 with 2 1: together 3, 3, 2.
        SmallTongues x = told("pa k", "be -", "ba k");
        is("whose", x.old(0, 0), 2);
        is("costs", x.old(0, 1), 2);
        is("sure", x.old(0, 2), 1);
        is("least tongue", x.old(1, 0), 0);
        is("unsure", x.old(1, 2), 2);
        x.hole(2, 0, true);
        is("without it", x.old(0, 0), 0);
        is("costs without it", x.old(0, 1), 2);
        is("unsure without it", x.old(0, 2), 2);
        x.hole(0, 0, true);
        is("one only", x.old(0, 0), 1);
        is("of no cost", x.old(0, 1), 0);
        x.hole(1, 0, true);
        for (int what = 0; what < 3; what++) is("no list has one", x.old(0, what), -5);
        is("what", x.old(0, 3), NONE);
        is("what below", x.old(0, -1), NONE);
        is("no meaning", x.old(10, 0), NONE);
    }

    private static void p28Best() {
        // a>e ahead of e>i makes all i; e>i ahead of a>e keeps them apart.
        SmallTongues x = told("pa pe pap - te", "pe pi pep pa tu", "pi pi pip");
        Due.law(x, "a>e");
        Due.law(x, "e>i");
        Due.law(x, "p>b");
        is("apart: how many", x.best(0, 1, 3, -1), 3);
        is("apart: first", x.best(0, 1, 3, 0), 1);
        is("apart: second", x.best(0, 1, 3, 1), 0);
        is("apart: exceptions", x.best(0, 1, 3, -2), 16);
        is("together: how many", x.best(0, 2, 3, -1), 3);
        is("together: first", x.best(0, 2, 3, 0), 0);
        is("together: exceptions", x.best(0, 2, 3, -2), 0);
        is("one law", x.best(0, 1, 1, -1), 2);
        is("its number", x.best(0, 1, 1, 0), 0);
        is("all of them", x.best(0, 1, 7, -1), 0);
        is("of several the first", x.best(0, 1, 7, 2), 2);
        is("all exceptions", x.best(0, 1, 7, -2), 23);
        x.hole(1, 0, true);
        is("holes", x.best(0, 1, 3, -1), 2);
        is("no i-th", x.best(0, 1, 3, 2), NONE);
        is("i below", x.best(0, 1, 3, -3), NONE);
        is("i below ahead of bad", x.best(0, 0, 0, -3), NONE);
        is("bad ahead of no i-th", x.best(0, 1, 0, 5), BAD);
        is("one tongue", x.best(1, 1, 3, 0), BAD);
        is("no laws", x.best(0, 1, 0, -1), BAD);
        is("no such law", x.best(0, 1, 8, -1), BAD);
        is("no such law below", x.best(0, 1, Integer.MIN_VALUE, -1), BAD);
        is("no tongue", x.best(3, 1, 3, -1), NONE);
        Due.law(x, "t>d");
        Due.law(x, "k>g");
        is("four", x.best(0, 1, 15, 3), 3);
        is("five", x.best(0, 1, 31, -1), BAD);
        is("as it was", x.best(2, 1, 16, -1), 1);
        x.tongue();
        is("no words in common", x.best(2, 3, 16, -1), 0);
        is("no exceptions in common", x.best(2, 3, 16, -2), 0);
        is("the first row all the same", x.best(2, 3, 17, 0), 0);
        SmallTongues z = told("pa pa pa", "p pap pa");
        Due.law(z, "k>g");
        is("of another size", z.best(0, 1, 1, -2), 3);
        p28OrderOfFour();
    }

    private static void p28OrderOfFour() {
        // Only 3, 1, 2, 0 leads a to b, by e, c and d.
        SmallTongues y = told("a", "b");
        Due.law(y, "d>b");
        Due.law(y, "e>c");
        Due.law(y, "c>d");
        Due.law(y, "a>e");
        int[] row = {3, 1, 2, 0};
        for (int i = 0; i < 4; i++) is("row " + i, y.best(0, 1, 15, i), row[i]);
        is("came out", y.best(0, 1, 15, -1), 1);
    }

    private static void p29Feeds() {
        SmallTongues x = told("pa ko", "ku");
        Due.law(x, "a>e");
        Due.law(x, "e>i");
        Due.law(x, "p>b");
        is("feed", x.feeds(0, 0, 1), 1);
        is("turned", x.feeds(0, 1, 0), 1);
        is("not", x.feeds(0, 0, 2), 0);
        is("not in another", x.feeds(1, 0, 1), 0);
        x.hole(0, 0, true);
        is("not of a hole", x.feeds(0, 0, 1), 0);
        is("one law", x.feeds(0, 1, 1), BAD);
        is("one law that is none", x.feeds(0, 3, 3), NONE);
        is("no law", x.feeds(0, 0, 3), NONE);
        is("no law below", x.feeds(0, -1, 0), NONE);
        is("no tongue", x.feeds(2, 0, 1), NONE);
    }

    private static void p30Steps() {
        // At LIMIT 0 like WORDS alone are KIN. TREES of four: 3 on branch 0 pairs 0 with 3, on 1 1 with 3, on 2 2 with 3.
        SmallTongues x = told("a", "a", "b", "b");
        x.limit(0);
        is("0 3 | 1 2", x.steps(15, 0), 2);
        is("1 3 | 0 2", x.steps(15, 1), 2);
        is("2 3 | 0 1", x.steps(15, 2), 1);
        is("three", x.steps(7, 0), 1);
        is("others", x.steps(14, 0), 1);
        x.hole(3, 0, true);
        is("any at a hole", x.steps(15, 0), 1);
        is("beyond", x.steps(15, 3), BAD);
        is("below", x.steps(15, -1), BAD);
        is("beyond one", x.steps(7, 1), BAD);
        is("two", x.steps(3, 0), BAD);
        is("no such bits", x.steps(23, 0), BAD);
        is("no such bits below", x.steps(Integer.MIN_VALUE | 7, 0), BAD);
        is("none", x.steps(0, 0), BAD);
        p30StepsOfSix();
    }

    private static void p30StepsOfSix() {
        // 3 on 0: branches 0 to a knot, 3 to TONGUE 0, 4 to 3. 4 on 4: 4 to a knot, 5 to 3, 6 to 4. 5 on 6: 4 with 5.
        // So (0 (3 (4 5))) 1 2, of the number (0 * 5 + 4) * 7 + 6 = 34.
        SmallTongues x = told("a a a a a", "a a b b b", "a b c b b", "b a a b a", "b b a c a", "b b a c a");
        x.limit(0);
        // MEANING 0: 0 1 2 | 3 4 5 apart: 1. 1: 2 and 4 5 apart: 2. 2: 1, 2: 2. 3: a to 0, c to 4 5: 2. 4: 1 2 apart: 1.
        is("34", x.steps(63, 34), 8);
        is("most number", x.steps(63, 105), BAD);
        is("last one", x.steps(63, 104) >= 0 ? 1 : 0, 1);
        // Through another TONGUE that is not told: 0 and 2 are KIN through 1 alone.
        SmallTongues y = told("pa", "ba", "be", "be", "pa");
        y.limit(5);
        is("kin through one not told", y.steps(29, 0), 0);
        y.hole(1, 0, true);
        is("not through a hole", y.steps(29, 0), 1);
        is("nor on another tree", y.steps(29, 2), 2);
    }

    private static void p31Tree() {
        SmallTongues x = told("a a", "b a", "a b", "b b");
        x.limit(0);
        // MEANING 0 wants 0 2 | 1 3, MEANING 1 wants 0 1 | 2 3.
        is("number", x.tree(15, 0), 1);
        is("steps", x.tree(15, 1), 3);
        is("rivals", x.tree(15, 2), 2);
        x.hole(0, 0, true);
        is("number then", x.tree(15, 0), 2);
        is("steps then", x.tree(15, 1), 2);
        is("rivals then", x.tree(15, 2), 1);
        is("three", x.tree(11, 2), 1);
        is("what", x.tree(15, 3), NONE);
        is("what below", x.tree(15, -1), NONE);
        is("bad ahead of what", x.tree(3, 3), BAD);
        is("no such bits", x.tree(31, 0), BAD);
        is("below", x.tree(-1, 0), BAD);
        SmallTongues y = tongues(6);
        is("all alike: number", y.tree(63, 0), 0);
        is("all alike: rivals", y.tree(63, 2), 105);
        is("all alike of five: rivals", y.tree(47, 2), 15);
        // Only one TREE has 0 with 1, 2 with 3 and 4 with 5: 3 on 2, 4 on 2, 5 on 6; number (2 * 5 + 2) * 7 + 6.
        SmallTongues z = told("a b b a", "a b b a", "b a b a", "b a b a", "b b a c", "b b a c");
        z.limit(0);
        is("of six: number", z.tree(63, 0), 90);
        is("of six: steps", z.tree(63, 1), 4);
        is("of six: rivals", z.tree(63, 2), 1);
    }

    private static void p32Claim() {
        SmallTongues x = told("pa ta", "pa", "-");
        is("first", x.claim(0, 0, 1, true, 0), 0);
        is("second", x.claim(0, 1, 0, false, 10), 1);
        is("no word", x.claim(1, 0, 1, true, 5), NONE);
        is("no tongue", x.claim(0, 0, 3, true, 5), NONE);
        is("no meaning", x.claim(-1, 0, 1, true, 5), NONE);
        is("one tongue", x.claim(0, 0, 0, true, 5), BAD);
        is("too sure", x.claim(0, 0, 1, true, 11), BAD);
        is("below", x.claim(0, 0, 1, true, -1), BAD);
        is("none ahead of bad", x.claim(1, 2, 2, true, 11), NONE);
        x.hole(0, 0, true);
        is("a hole", x.claim(0, 0, 1, true, 5), NONE);
        x.hole(0, 0, false);
        for (int c = 2; c < 60; c++) is("claim", x.claim(0, 0, 1, true, 5), c);
        is("full", x.claim(0, 0, 1, true, 5), FULL);
        is("bad ahead of full", x.claim(0, 0, 1, true, 11), BAD);
        is("claims", x.count(4), 60);
        x.open();
        is("open ahead of full", x.claim(0, 0, 1, true, 5), STATE);
        is("bad ahead of open", x.claim(0, 0, 0, true, 5), BAD);
    }

    private static void p33Right() {
        SmallTongues x = told("pa ta", "pa");
        x.split(0);
        x.claim(0, 0, 1, true, 1);
        x.claim(0, 0, 1, false, 2);
        x.claim(0, 0, 2, true, 3);
        x.claim(0, 0, 2, false, 4);
        is("shut", x.right(0), STATE);
        is("none ahead", x.right(4), NONE);
        Due.coin(x, 0, 0, "pa");
        x.forget(2, 0);
        x.open();
        is("not of one root", x.right(0), 0);
        is("said not to be", x.right(1), 1);
        is("of one root then", x.right(2), 1);
        is("said not to be, but are", x.right(3), 0);
        is("none", x.right(4), NONE);
        is("below", x.right(-1), NONE);
    }

    private static void p34Sure() {
        SmallTongues x = told("pa", "pa");
        x.claim(0, 0, 1, true, 10);
        x.claim(0, 0, 1, false, 10);
        x.claim(0, 0, 1, false, 10);
        x.claim(0, 0, 1, false, 0);
        is("how many", x.sure(10, 0), 3);
        is("none so sure", x.sure(5, 0), 0);
        is("shut", x.sure(10, 1), STATE);
        is("what", x.sure(10, 2), NONE);
        is("what below", x.sure(11, -1), NONE);
        is("beyond", x.sure(11, 1), BAD);
        is("below", x.sure(-1, 0), BAD);
        x.open();
        is("right ones", x.sure(10, 1), 2);
        is("of 0", x.sure(0, 1), 1);
        is("still", x.sure(10, 0), 3);
        is("of none", x.sure(5, 1), 0);
    }

    private static void actIs(SmallTongues x, int event, int act, int arg, int want, int... trace) {
        String call = "act(" + event + ", " + act + ", " + arg + ")";
        is(call, x.act(event, act, arg), want);
        is(call + " bodies", x.count(7), trace.length);
        for (int i = 0; i < trace.length; i++) is(call + " trace " + i, x.trace(i), trace[i]);
        is(call + " no more", x.trace(trace.length), NONE);
        is(call + " none below", x.trace(-1), NONE);
    }

    /** EVENTS 0 COIN (YEAR 0), 1 SOUND, 2 LOAN, 3 SPLIT, 4 SHORT, 5 FORGET, all of YEAR 10. */
    private static SmallTongues eventful() {
        SmallTongues x = tongues(2);
        Due.coin(x, 0, 0, "pata");
        Due.law(x, "p>b");
        x.years(10);
        x.sound(0, 0);
        x.loan(0, 0, 1);
        x.split(0);
        x.shorten(0, 0);
        x.forget(1, 0);
        return x;
    }

    private static void p35Act36Trace() {
        SmallTongues x = eventful();
        actIs(x, 0, 0, 5, 5, 1);
        actIs(x, 0, 1, 5, 5 ^ 7, 21, 2, 1);
        actIs(x, 0, 2, 5, ((6 ^ 7) * 2) ^ 3, 61, 3, 21, 2, 1);
        actIs(x, 1, 0, 5, 16, 11, 1);
        actIs(x, 1, 1, 5, 6, 2, 11, 1);
        actIs(x, 1, 2, 5, 12, 3, 2, 11, 1);
        actIs(x, 2, 0, 5, 7, 1);
        actIs(x, 2, 1, 5, (7 - 10) ^ 7, 21, 2, 1);
        actIs(x, 2, 2, 5, ((7 - 10) ^ 7) * 2, 3, 21, 2, 1);
        actIs(x, 3, 0, 5, 8, 1);
        actIs(x, 3, 1, 5, -2, 2, 1);
        actIs(x, 3, 2, 5, 4, 31, 3, 2, 1);
        actIs(x, 4, 0, 5, 19, 11, 1);
        actIs(x, 4, 1, 5, (12 + 4 - 10) + (6 + 4), 41, 2, 11, 1, 11, 1);
        actIs(x, 4, 2, 5, 32, 3, 41, 2, 11, 1, 11, 1);
        actIs(x, 5, 0, 5, 15, 51, 1);
        actIs(x, 5, 1, 5, 5 ^ 7, 21, 2, 51, 1);
        actIs(x, 5, 2, 5, (5 ^ 7) * 2, 3, 21, 2, 51, 1);
        actIs(x, 1, 0, Integer.MAX_VALUE, Integer.MAX_VALUE * 3 + 1, 11, 1);
        actIs(x, 3, 2, Integer.MIN_VALUE, -((Integer.MIN_VALUE + 3 - 10) * 2), 31, 3, 2, 1);
        actIs(x, 6, 0, 5, 0);
        x.act(1, 0, 1);
        actIs(x, 1, 3, 5, 0);
        x.act(1, 0, 1);
        actIs(x, 1, -1, 5, 0);
        x.act(1, 0, 1);
        actIs(x, -1, 0, 5, 0);
        x.act(4, 2, 1);
        actIs(x, 2, 0, 5, 7, 1);
    }

    private static void p37As() {
        SmallTongues x = eventful();
        int[][] under = {{0, 2, 6}, {0, 1}, {0, 2}, {0, 3}, {0, 1, 4}, {0, 2, 5}};
        for (int i = 0; i < 6; i++) {
            for (int k = 0; k <= 6; k++) {
                int want = -6;
                for (int u : under[i]) if (u == k) want = i == 0 ? 0 : 10;
                is("event " + i + " as " + k, x.as(i, k), want);
            }
        }
        is("no event", x.as(6, 0), NONE);
        is("below", x.as(-1, 0), NONE);
        is("no kind", x.as(0, 7), NONE);
        is("no kind below", x.as(0, -1), NONE);
    }

    private static void p38Count() {
        SmallTongues x = eventful();
        x.claim(0, 0, 2, true, 4);
        Due.feed(x, "abc");
        x.act(4, 1, 1);
        int[] want = {3, 1, 6, 1, 1, 10, 3, 6};
        for (int what = 0; what < 8; what++) is("count " + what, x.count(what), want[what]);
        is("beyond", x.count(8), NONE);
        is("below", x.count(-1), NONE);
    }

    public static void main(String[] args) {
        p1NewObject();
        p2Tongue();
        p3Years();
        p4Feed();
        p5Law();
        lawsLead();
        p6Coin();
        p7Sound();
        p8Shorten();
        p9Loan();
        p10Forget();
        p11Split();
        p12Word();
        p13Open();
        p14Truth();
        p15From();
        p16Event();
        p17Limit();
        p18Hole();
        p19Cost();
        p20Way();
        p21Kin();
        p22Set();
        p23Odds();
        p24Matches();
        p25Far();
        p26Borrowed();
        p27Old();
        p28Best();
        p29Feeds();
        p30Steps();
        p31Tree();
        p32Claim();
        p33Right();
        p34Sure();
        p35Act36Trace();
        p37As();
        p38Count();
        DUE.end();
    }
}
