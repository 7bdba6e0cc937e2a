import java.util.ArrayList;
import java.util.Arrays;
import java.util.List;
import java.util.TreeMap;
import java.util.TreeSet;
import java.util.regex.Matcher;
import java.util.regex.Pattern;

/**
 * The document once more, by other means than the class: texts, patterns, tables and trying everything out.
 * Slow where the class is quick, so that both are unlikely to be wrong in the same way.
 */
final class Oracle {
    private static final int NONE = -1, BAD = -2, STATE = -3, FULL = -4;
    private static final String VOWELS = "aeiou";
    private static final String CHANGE = "[a-zVC]>[a-z0](/[a-zVC#]?_[a-zVC#]?)?";
    private static final Pattern LAW = Pattern.compile(CHANGE + "(," + CHANGE + "){0,5}");
    private static final int[] ABOVE = {-1, 0, 0, 0, 1, 2, 2};
    // Of each KIND the bodies of tells, leads, marks; 0: none.
    private static final int[][] BODIES = {{1, 2, 3}, {11, 0, 0}, {0, 21, 0}, {0, 0, 31}, {0, 41, 0}, {51, 0, 0}, {0, 0, 61}};

    private record Said(String text, int root, boolean loan) { }

    private record Happened(int kind, int year, int tongue, int law, int meaning) { }

    private record Claimed(boolean right, int sure) { }

    private final List<TreeMap<Integer, Said>> tongues = new ArrayList<>();
    private final List<int[]> splits = new ArrayList<>();
    private final List<String> laws = new ArrayList<>();
    private final List<Happened> events = new ArrayList<>();
    private final List<Claimed> claims = new ArrayList<>();
    private final TreeSet<Integer> holes = new TreeSet<>();
    private final List<Integer> trace = new ArrayList<>();
    private String tape = "";
    private int roots = 0;
    private int now = 0;
    private int limit = 12;
    private boolean open = false;

    private boolean tongueIs(int t) {
        return 0 <= t && t < tongues.size();
    }

    private static boolean meaningIs(int m) {
        return 0 <= m && m <= 9;
    }

    private boolean wordIs(int t, int m) {
        return tongueIs(t) && meaningIs(m) && tongues.get(t).containsKey(m);
    }

    private boolean listIs(int t, int m) {
        return wordIs(t, m) && !holes.contains(t * 10 + m);
    }

    private String text(int t, int m) {
        return tongues.get(t).get(m).text();
    }

    private boolean eventsFull() {
        return events.size() == 80;
    }

    private void happen(int kind, int tongue, int law, int meaning) {
        events.add(new Happened(kind, now, tongue, law, meaning));
    }

    int tongue() {
        if (tongues.size() == 6) return FULL;
        tongues.add(new TreeMap<>());
        splits.add(new int[] {-5, -5});
        return tongues.size() - 1;
    }

    int years(int n) {
        if (n < 1 || n > 500 || now + n > 9999) return BAD;
        return now += n;
    }

    int feed(long w, int n) {
        if (n < 1 || n > 8) return BAD;
        if (tape.length() + n > 80) return FULL;
        String more = "";
        for (int i = 0; i < n; i++) {
            more = (char) (w >> 8 * i & 0xff) + more;
        }
        tape += more;
        return tape.length();
    }

    int law() {
        if (laws.size() == 12) return FULL;
        String text = tape;
        tape = "";
        if (LAW.matcher(text).matches()) {
            laws.add(text);
            return laws.size() - 1;
        }
        int good = 0;
        while (good < text.length() && canGoOn(text.substring(0, good + 1))) good++;
        return -10 - good;
    }

    private static boolean canGoOn(String start) {
        Matcher matcher = LAW.matcher(start);
        return matcher.matches() || matcher.hitEnd();
    }

    int coin(int t, int m) {
        if (!tongueIs(t) || !meaningIs(m)) return NONE;
        if (eventsFull()) return FULL;
        String text = tape;
        tape = "";
        if (!text.matches("[a-z]{1,8}")) {
            int good = 0;
            while (good < 8 && good < text.length() && text.substring(good, good + 1).matches("[a-z]")) good++;
            return -10 - good;
        }
        tongues.get(t).put(m, new Said(text, roots, false));
        happen(6, t, -5, m);
        return roots++;
    }

    /** By a pattern with look-behind and look-ahead for each CHANGE. */
    private static String lead(String text, String law) {
        StringBuilder out = new StringBuilder();
        for (int at = 0; at < text.length(); at++) {
            String becomes = text.substring(at, at + 1);
            for (String change : law.split(",")) {
                String[] halves = change.split("/");
                String left = "", right = "";
                if (halves.length > 1) {
                    String[] sides = halves[1].split("_", -1);
                    left = side(sides[0], "(?<=", "^");
                    right = side(sides[1], "(?=", "$");
                }
                Pattern pattern = Pattern.compile(left + signs(halves[0].charAt(0)) + right);
                Matcher matcher = pattern.matcher(text).useTransparentBounds(true).useAnchoringBounds(false);
                if (matcher.region(at, at + 1).lookingAt()) {
                    becomes = halves[0].charAt(2) == '0' ? "" : halves[0].substring(2);
                    break;
                }
            }
            out.append(becomes);
        }
        return out.isEmpty() ? text : out.toString();
    }

    private static String signs(char sign) {
        return sign == 'V' ? "[aeiou]" : sign == 'C' ? "[a-z&&[^aeiou]]" : "" + sign;
    }

    private static String side(String sign, String look, String edge) {
        if (sign.isEmpty()) return "";
        return sign.equals("#") ? edge : look + signs(sign.charAt(0)) + ")";
    }

    int sound(int t, int l) {
        if (!tongueIs(t) || l < 0 || l >= laws.size()) return NONE;
        if (eventsFull()) return FULL;
        int others = 0;
        for (int m : List.copyOf(tongues.get(t).keySet())) {
            Said said = tongues.get(t).get(m);
            String led = lead(said.text(), laws.get(l));
            if (!led.equals(said.text())) others++;
            tongues.get(t).put(m, new Said(led, said.root(), said.loan()));
        }
        happen(1, t, l, -5);
        return others;
    }

    int shorten(int t, int m) {
        if (!wordIs(t, m)) return NONE;
        Said said = tongues.get(t).get(m);
        if (said.text().length() == 1) return STATE;
        if (eventsFull()) return FULL;
        String text = said.text().substring(0, said.text().length() - 1);
        tongues.get(t).put(m, new Said(text, said.root(), said.loan()));
        happen(4, t, -5, m);
        return text.length();
    }

    int loan(int m, int from, int to) {
        if (!wordIs(from, m) || !tongueIs(to)) return NONE;
        if (from == to) return BAD;
        if (eventsFull()) return FULL;
        Said said = tongues.get(from).get(m);
        tongues.get(to).put(m, new Said(said.text(), said.root(), true));
        happen(2, to, -5, m);
        return said.root();
    }

    int forget(int t, int m) {
        if (!wordIs(t, m)) return NONE;
        if (eventsFull()) return FULL;
        happen(5, t, -5, m);
        return tongues.get(t).remove(m).root();
    }

    int split(int t) {
        if (!tongueIs(t)) return NONE;
        if (tongues.size() == 6 || eventsFull()) return FULL;
        tongues.add(new TreeMap<>(tongues.get(t)));
        splits.add(new int[] {t, now});
        happen(3, tongues.size() - 1, -5, -5);
        return tongues.size() - 1;
    }

    int word(int t, int m, int i) {
        if (!wordIs(t, m) || i < -1 || i >= text(t, m).length()) return NONE;
        return i == -1 ? text(t, m).length() : text(t, m).charAt(i) - 'a';
    }

    int open() {
        if (open) return STATE;
        open = true;
        return claims.size();
    }

    int truth(int t, int m, int what) {
        if (!wordIs(t, m) || what != 0 && what != 1) return NONE;
        if (!open) return STATE;
        Said said = tongues.get(t).get(m);
        return what == 0 ? said.root() : said.loan() ? 1 : 0;
    }

    int from(int t, int what) {
        if (!tongueIs(t) || what != 0 && what != 1) return NONE;
        return open ? splits.get(t)[what] : STATE;
    }

    private boolean eventIs(int i) {
        return 0 <= i && i < events.size();
    }

    int event(int i, int what) {
        if (!eventIs(i) || what < 0 || what > 4) return NONE;
        if (!open) return STATE;
        Happened e = events.get(i);
        return new int[] {e.kind(), e.year(), e.tongue(), e.law(), e.meaning()}[what];
    }

    int limit(int n) {
        if (n < 0 || n > 60) return BAD;
        int was = limit;
        limit = n;
        return was;
    }

    int hole(int t, int m, boolean so) {
        if (!tongueIs(t) || !meaningIs(m)) return NONE;
        boolean was = so ? !holes.add(t * 10 + m) : holes.remove(t * 10 + m);
        return was ? 1 : 0;
    }

    private static boolean vowel(char c) {
        return VOWELS.indexOf(c) >= 0;
    }

    private static int beside(char a, char b) {
        return a == b ? 0 : vowel(a) == vowel(b) ? 1 : 3;
    }

    /** Every place of the table from the fronts on, as the class does it from the ends on. */
    private static int costOf(String a, String b) {
        int[][] table = new int[a.length() + 1][b.length() + 1];
        for (int i = 0; i <= a.length(); i++) {
            for (int j = 0; j <= b.length(); j++) {
                if (i == 0 && j == 0) continue;
                int least = Integer.MAX_VALUE;
                if (i > 0) least = Math.min(least, table[i - 1][j] + 2);
                if (j > 0) least = Math.min(least, table[i][j - 1] + 2);
                if (i > 0 && j > 0) least = Math.min(least, table[i - 1][j - 1] + beside(a.charAt(i - 1), b.charAt(j - 1)));
                table[i][j] = least;
            }
        }
        return table[a.length()][b.length()];
    }

    private static List<Integer> wayOf(String a, String b) {
        List<Integer> way = new ArrayList<>();
        while (!a.isEmpty() || !b.isEmpty()) {
            int due = costOf(a, b);
            int x = a.isEmpty() ? 0 : a.charAt(0) - 'a' + 1;
            int y = b.isEmpty() ? 0 : b.charAt(0) - 'a' + 1;
            if (x > 0 && y > 0 && due == beside(a.charAt(0), b.charAt(0)) + costOf(a.substring(1), b.substring(1))) {
                way.add(100 * x + y);
                a = a.substring(1);
                b = b.substring(1);
            } else if (x > 0 && due == 2 + costOf(a.substring(1), b)) {
                way.add(100 * x);
                a = a.substring(1);
            } else {
                way.add(y);
                b = b.substring(1);
            }
        }
        return way;
    }

    int cost(int m, int a, int b) {
        return listIs(a, m) && listIs(b, m) ? costOf(text(a, m), text(b, m)) : NONE;
    }

    int way(int m, int a, int b, int i) {
        if (!listIs(a, m) || !listIs(b, m)) return NONE;
        List<Integer> way = wayOf(text(a, m), text(b, m));
        if (i == -1) return way.size();
        return i >= 0 && i < way.size() ? way.get(i) : NONE;
    }

    private boolean kinAre(String a, String b) {
        return 10 * costOf(a, b) <= limit * Math.max(a.length(), b.length());
    }

    int kin(int m, int a, int b) {
        if (!listIs(a, m) || !listIs(b, m)) return NONE;
        if (a == b) return BAD;
        return kinAre(text(a, m), text(b, m)) ? 1 : 0;
    }

    /** By joining, over and over, the sets of TONGUES that are KIN, until nothing is joined. */
    int set(int m, int t) {
        if (!listIs(t, m)) return NONE;
        int[] of = new int[6];
        Arrays.setAll(of, u -> u);
        for (int round = 0; round < 6; round++) {
            for (int a = 0; a < 6; a++) {
                for (int b = 0; b < 6; b++) {
                    if (listIs(a, m) && listIs(b, m) && kinAre(text(a, m), text(b, m))) {
                        of[a] = of[b] = Math.min(of[a], of[b]);
                    }
                }
            }
        }
        int bits = 0;
        for (int u = 0; u < 6; u++) {
            if (of[u] == of[t]) bits += 1 << u;
        }
        return bits;
    }

    int odds(int m, int a, int b, int what) {
        if (!listIs(a, m) || !tongueIs(b) || what != 0 && what != 1) return NONE;
        int kin = 0, all = 0;
        for (int other : tongues.get(b).keySet()) {
            if (other == m || !listIs(b, other)) continue;
            all++;
            if (kinAre(text(a, m), text(b, other))) kin++;
        }
        return what == 0 ? kin : all;
    }

    int matches(int a, int b, int x, int y) {
        if (!tongueIs(a) || !tongueIs(b)) return NONE;
        if (a == b || x < 0 || x > 26 || y < 0 || y > 26 || x == 0 && y == 0) return BAD;
        int found = 0;
        for (int m : both(a, b)) {
            if (kinAre(text(a, m), text(b, m)) && wayOf(text(a, m), text(b, m)).contains(100 * x + y)) found++;
        }
        return found;
    }

    private List<Integer> both(int a, int b) {
        List<Integer> meanings = new ArrayList<>();
        for (int m = 0; m < 10; m++) {
            if (listIs(a, m) && listIs(b, m)) meanings.add(m);
        }
        return meanings;
    }

    int far(int a, int b, int what) {
        if (!tongueIs(a) || !tongueIs(b) || what != 0 && what != 1) return NONE;
        if (a == b) return BAD;
        List<Integer> both = both(a, b);
        return what == 1 ? both.size() : both.stream().mapToInt(m -> cost(m, a, b)).sum();
    }

    int borrowed(int m, int t, int from) {
        if (!listIs(t, m) || !listIs(from, m)) return NONE;
        if (t == from) return BAD;
        if (!text(t, m).equals(text(from, m))) return 0;
        int number = far(t, from, 1) - 1;
        return number >= 2 && far(t, from, 0) > 2 * number ? 1 : 0;
    }

    int old(int m, int what) {
        if (!meaningIs(m) || what < 0 || what > 2) return NONE;
        TreeMap<Integer, List<Integer>> byCosts = new TreeMap<>();
        for (int t = 0; t < tongues.size(); t++) {
            if (!listIs(t, m)) continue;
            int costs = 0;
            for (int u = 0; u < tongues.size(); u++) {
                if (listIs(u, m)) costs += cost(m, t, u);
            }
            byCosts.computeIfAbsent(costs, c -> new ArrayList<>()).add(t);
        }
        if (byCosts.isEmpty()) return -5;
        List<Integer> least = byCosts.firstEntry().getValue();
        return new int[] {least.get(0), byCosts.firstKey(), least.size()}[what];
    }

    /** All rows of 4, 3, 2 or 1 of the told LAWS, counted like numbers to the base 12. */
    private List<int[]> rows(int bits) {
        int size = Integer.bitCount(bits);
        List<int[]> rows = new ArrayList<>();
        for (int n = 0; n < Math.pow(12, size); n++) {
            int[] row = new int[size];
            int used = 0;
            for (int i = size - 1, rest = n; i >= 0; i--, rest /= 12) {
                row[i] = rest % 12;
                used |= 1 << row[i];
            }
            if (used == bits) rows.add(row);
        }
        return rows;
    }

    int best(int from, int to, int bits, int i) {
        if (!tongueIs(from) || !tongueIs(to) || i < -2) return NONE;
        int size = Integer.bitCount(bits);
        if (from == to || bits < 0 || bits >= 1 << laws.size() || size == 0 || size > 4) return BAD;
        if (i >= size) return NONE;
        int most = -1, exceptions = 0;
        int[] best = {};
        for (int[] row : rows(bits)) {
            int came = 0, not = 0;
            for (int m : both(from, to)) {
                String text = text(from, m);
                for (int l : row) text = lead(text, laws.get(l));
                if (text.equals(text(to, m))) came++;
                else not |= 1 << m;
            }
            if (came > most) {
                most = came;
                exceptions = not;
                best = row;
            }
        }
        return i == -2 ? exceptions : i == -1 ? most : best[i];
    }

    int feeds(int t, int a, int b) {
        if (!tongueIs(t) || a < 0 || a >= laws.size() || b < 0 || b >= laws.size()) return NONE;
        if (a == b) return BAD;
        for (int m = 0; m < 10; m++) {
            if (!listIs(t, m)) continue;
            String one = lead(lead(text(t, m), laws.get(a)), laws.get(b));
            String other = lead(lead(text(t, m), laws.get(b)), laws.get(a));
            if (!one.equals(other)) return 1;
        }
        return 0;
    }

    private static final int[] TREES = {0, 0, 0, 1, 3, 15, 105};

    private boolean leavesAre(int bits) {
        return bits >= 0 && bits < 1 << tongues.size() && Integer.bitCount(bits) >= 3;
    }

    int steps(int bits, int tree) {
        if (!leavesAre(bits) || tree < 0 || tree >= TREES[Integer.bitCount(bits)]) return BAD;
        return stepsOf(bits, tree);
    }

    private int stepsOf(int bits, int tree) {
        // Ends: the TONGUES by number, then 10, 11 and so on for the knots.
        List<Integer> leaves = new ArrayList<>();
        for (int t = 0; t < 6; t++) {
            if ((bits >> t & 1) != 0) leaves.add(t);
        }
        List<int[]> branches = new ArrayList<>();
        for (int i = 0; i < 3; i++) branches.add(new int[] {10, leaves.get(i)});
        int[] digits = new int[6];
        if (leaves.size() == 4) digits[3] = tree;
        if (leaves.size() == 5) { digits[3] = tree / 5; digits[4] = tree % 5; }
        if (leaves.size() == 6) { digits[3] = tree / 35; digits[4] = tree / 7 % 5; digits[5] = tree % 7; }
        for (int i = 3; i < leaves.size(); i++) {
            int knot = 10 + i - 2;
            int[] on = branches.get(digits[i]);
            branches.set(digits[i], new int[] {on[0], knot});
            branches.add(new int[] {knot, on[1]});
            branches.add(new int[] {knot, leaves.get(i)});
        }
        int steps = 0;
        for (int m = 0; m < 10; m++) steps += fewest(branches, leaves, m);
        return steps;
    }

    /** Tries every KIN SET that there is at every knot and at every TONGUE without a WORD. */
    private int fewest(List<int[]> branches, List<Integer> leaves, int m) {
        int[] labels = new int[14];
        List<Integer> free = new ArrayList<>();
        TreeSet<Integer> sets = new TreeSet<>();
        for (int k = 0; k < leaves.size() - 2; k++) free.add(10 + k);
        for (int leaf : leaves) {
            labels[leaf] = set(m, leaf);
            if (labels[leaf] < 0) free.add(leaf);
            else sets.add(labels[leaf]);
        }
        return sets.size() < 2 ? 0 : tryAll(branches, labels, free, sets, 0);
    }

    private static int tryAll(List<int[]> branches, int[] labels, List<Integer> free, TreeSet<Integer> sets, int at) {
        if (at == free.size()) {
            int changes = 0;
            for (int[] branch : branches) {
                if (labels[branch[0]] != labels[branch[1]]) changes++;
            }
            return changes;
        }
        int least = Integer.MAX_VALUE;
        for (int set : sets) {
            labels[free.get(at)] = set;
            least = Math.min(least, tryAll(branches, labels, free, sets, at + 1));
        }
        return least;
    }

    int tree(int bits, int what) {
        if (!leavesAre(bits)) return BAD;
        if (what < 0 || what > 2) return NONE;
        int best = 0, rivals = 0, fewest = Integer.MAX_VALUE;
        for (int tree = 0; tree < TREES[Integer.bitCount(bits)]; tree++) {
            int steps = stepsOf(bits, tree);
            if (steps < fewest) {
                fewest = steps;
                best = tree;
                rivals = 0;
            }
            if (steps == fewest) rivals++;
        }
        return new int[] {best, fewest, rivals}[what];
    }

    int claim(int m, int a, int b, boolean kin, int sure) {
        if (!listIs(a, m) || !listIs(b, m)) return NONE;
        if (a == b || sure < 0 || sure > 10) return BAD;
        if (open) return STATE;
        if (claims.size() == 60) return FULL;
        claims.add(new Claimed((tongues.get(a).get(m).root() == tongues.get(b).get(m).root()) == kin, sure));
        return claims.size() - 1;
    }

    int right(int claim) {
        if (claim < 0 || claim >= claims.size()) return NONE;
        if (!open) return STATE;
        return claims.get(claim).right() ? 1 : 0;
    }

    int sure(int sure, int what) {
        if (what != 0 && what != 1) return NONE;
        if (sure < 0 || sure > 10) return BAD;
        if (what == 1 && !open) return STATE;
        return (int) claims.stream().filter(c -> c.sure() == sure && (what == 0 || c.right())).count();
    }

    int act(int i, int act, int x) {
        trace.clear();
        if (!eventIs(i) || act < 0 || act > 2) return 0;
        return run(i, events.get(i).kind(), act, x);
    }

    /** The body of the act as it is found from that KIND on upward. */
    private int run(int i, int kind, int act, int x) {
        int k = kind;
        while (BODIES[k][act] == 0) k = ABOVE[k];
        trace.add(BODIES[k][act]);
        int own = events.get(i).kind();
        int y = events.get(i).year();
        switch (BODIES[k][act]) {
            case 1: return x + i;
            case 2: return run(i, own, 0, x) - y;
            case 3: return run(i, own, 1, x) * 2;
            case 11: return run(i, ABOVE[k], 0, x * 3);
            case 21: return run(i, ABOVE[k], 1, x) ^ 7;
            case 31: return -run(i, ABOVE[k], 2, x);
            case 41: return run(i, ABOVE[k], 1, x - 1) + run(i, own, 0, 2);
            case 51: return run(i, ABOVE[k], 0, x) + i;
            default: return run(i, ABOVE[k], 2, x + 1) ^ 3;
        }
    }

    int trace(int i) {
        return i >= 0 && i < Math.min(20, trace.size()) ? trace.get(i) : NONE;
    }

    int as(int i, int k) {
        if (!eventIs(i) || k < 0 || k > 6) return NONE;
        for (int kind = events.get(i).kind(); kind >= 0; kind = ABOVE[kind]) {
            if (kind == k) return events.get(i).year();
        }
        return -6;
    }

    int count(int what) {
        if (what < 0 || what > 7) return NONE;
        return new int[] {tongues.size(), laws.size(), events.size(), roots, claims.size(), now, tape.length(), trace.size()}[what];
    }
}
