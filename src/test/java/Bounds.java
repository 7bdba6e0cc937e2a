import java.util.ArrayList;
import java.util.IdentityHashMap;
import java.util.List;
import java.util.Map;

/** Asks for the document's sentences, one at a time; a call that is to change nothing is followed by every look. */
final class Bounds {
    static final int NONE = -1, BAD = -2, STATE = -3, FULL = -4;
    static final int MIN = Integer.MIN_VALUE, MAX = Integer.MAX_VALUE;

    private final Due due;
    private final List<String> sentences = new ArrayList<>();
    private final Map<Story, int[][]> seen = new IdentityHashMap<>();
    private String sentence = "";

    Bounds(Due due) {
        this.due = due;
    }

    /** What is asked from here on is asked for this sentence, word by word as the document has it. */
    void sentence(String text) {
        sentence = text;
        sentences.add(text);
    }

    List<String> sentences() {
        return sentences;
    }

    private void is(String what, int got, int want) {
        due.is("\"" + sentence + "\": " + what, got, want);
    }

    /** The call is answered so; the story with it, for more to be asked. */
    Story takes(Story story, int want, String name, Object... given) {
        Call call = new Call(name, given);
        is(call.toString(), call.on(story.live()), want);
        Story longer = story.then(call);
        due.so("a story of at most 512 calls", longer.size() <= Story.MOST_CALLS);
        return longer;
    }

    /** The call is answered so, and nothing has changed behind it. */
    void keeps(Story story, int want, String name, Object... given) {
        keepsAs(story, takes(story, want, name, given), name);
    }

    /** The call is answered and not refused; one that only asks changes nothing. */
    void isTaken(Story story, boolean changing, String name, Object... given) {
        Call call = new Call(name, given);
        int answer = call.on(story.live());
        due.so(sentence + ": " + call + " answered " + answer + " and was not refused", answer >= 0 || answer == -5 || answer == -6);
        if (!changing) keepsAs(story, story.then(call), name);
    }

    /** The two stories have led to one state: no look tells them apart. */
    void alike(Story one, Story other) {
        keepsAs(one, other, "another story");
    }

    private void keepsAs(Story before, Story after, String name) {
        int[][] views = seen.computeIfAbsent(before, Bounds::views);
        for (int look = 0; look < views.length; look++) {
            Look each = Look.ALL.get(look);
            due.so("a look within 512 calls", after.size() + each.size() <= Story.MOST_CALLS);
            int[] view = each.at(after.live());
            for (int i = 0; i < view.length; i++) {
                if (view[i] != views[look][i]) is("behind " + name + " " + each.tell(i), view[i], views[look][i]);
            }
        }
    }

    private static int[][] views(Story story) {
        int[][] views = new int[Look.ALL.size()][];
        for (int look = 0; look < views.length; look++) views[look] = Look.ALL.get(look).at(story.live());
        return views;
    }

    /** A WORD reads so. */
    void reads(Story story, int tongue, int meaning, String want) {
        takes(story, want.length(), "word", tongue, meaning, -1);
        for (int i = 0; i < want.length(); i++) takes(story, want.charAt(i) - 'a', "word", tongue, meaning, i);
        keeps(story, NONE, "word", tongue, meaning, want.length());
    }
}
