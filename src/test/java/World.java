/**
 * A world in which there is something of everything, so that whatever a call changed would be seen; and what is true
 * of it, told here and not asked of the class.
 */
final class World {
    static final int OPEN = 1, NO_EVENTS = 2, NO_TONGUES = 4, NO_LAWS = 8, NO_CLAIMS = 16, NO_BYTES = 32;

    private static final String[][] WORDS = {
        {"pater", "mater", "tu", "okto", "ped", "a", "", "bak", "kos", "dent"},
        {"fader", "mader", "du", "akt", "fot", "a", "bab", "", "hus", "tand"},
        {"feder", "meder", "du", "ekt", "fot", "e", "beb", "bek", "hu", ""}};

    final boolean open;
    final boolean noEvents;
    final boolean noTongues;
    final boolean noLaws;
    final boolean noClaims;
    final int tongues;
    final int laws;
    final int events;
    final int claims;
    final int bytes;
    final Story story;

    /** With more or less room in it, as the bits say. */
    World(int bits) {
        open = (bits & OPEN) != 0;
        noEvents = (bits & NO_EVENTS) != 0;
        noTongues = (bits & NO_TONGUES) != 0;
        noLaws = (bits & NO_LAWS) != 0;
        noClaims = (bits & NO_CLAIMS) != 0;
        tongues = noTongues ? 6 : 4;
        laws = noLaws ? 12 : 3;
        events = noEvents ? 80 : 23;
        claims = noClaims ? 60 : 2;
        bytes = (bits & NO_BYTES) != 0 ? 0 : 2;
        Story told = Story.told("pater mater tu okto ped a - bak kos dent", "fader mader du akt fot a bab - hus tand")
            .then("years", 30).then("split", 1).then("tongue").then("hole", 1, 8, true).then("hole", 2, 0, true)
            .law("p>f/#_,t>d/V_").law("V>0/_#").law("a>e").then("loan", 7, 0, 2).then("forget", 2, 9)
            .then("sound", 2, 2).then("shorten", 2, 8).then("limit", 9)
            .then("claim", 0, 0, 1, true, 7).then("claim", 1, 0, 1, false, 3);
        if (noEvents) told = told.times(57, "sound", 3, 0);
        if (noTongues) told = told.times(2, "tongue");
        if (noLaws) for (int law = 3; law < 12; law++) told = told.law("z>y");
        if (noClaims) told = told.times(58, "claim", 2, 0, 1, true, 10);
        told = told.then("act", 22, 1, 5);
        if (bytes > 0) told = told.fed("ab");
        story = open ? told.then("open") : told;
    }

    boolean tongue(int t) {
        return t >= 0 && t < tongues;
    }

    boolean meaning(int m) {
        return m >= 0 && m < 10;
    }

    boolean law(int l) {
        return l >= 0 && l < laws;
    }

    String text(int t, int m) {
        return tongue(t) && meaning(m) && t < WORDS.length ? WORDS[t][m] : "";
    }

    boolean word(int t, int m) {
        return !text(t, m).isEmpty();
    }

    boolean listed(int t, int m) {
        return word(t, m) && !(t == 1 && m == 8) && !(t == 2 && m == 0);
    }

    @Override
    public String toString() {
        return (open ? "open" : "shut") + (noEvents ? ", full of events" : "") + (noTongues ? ", full of tongues" : "")
            + (noLaws ? ", full of laws" : "") + (noClaims ? ", full of claims" : "");
    }
}
