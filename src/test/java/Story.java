import java.util.ArrayList;
import java.util.List;

/** A run of calls that can be lived again and again, each time on a new object; it never changes, so it may branch. */
final class Story {
    static final Story NEW = new Story(List.of());
    /** Beyond these the document promises nothing of an object. */
    static final int MOST_CALLS = 512;

    private final List<Call> calls;

    private Story(List<Call> calls) {
        this.calls = calls;
    }

    Story then(Call call) {
        List<Call> more = new ArrayList<>(calls);
        more.add(call);
        return new Story(more);
    }

    Story then(String name, Object... given) {
        return then(new Call(name, given));
    }

    Story times(int n, String name, Object... given) {
        List<Call> more = new ArrayList<>(calls);
        for (int i = 0; i < n; i++) more.add(new Call(name, given));
        return new Story(more);
    }

    /** The text's signs come to THE TAPE, eight bytes at a time. */
    Story fed(String text) {
        Story fed = this;
        for (int start = 0; start < text.length(); start += 8) {
            int end = Math.min(text.length(), start + 8);
            long w = 0;
            for (int i = start; i < end; i++) w = w << 8 | text.charAt(i) & 255;
            fed = fed.then("feed", w, end - start);
        }
        return fed;
    }

    Story law(String text) {
        return fed(text).then("law");
    }

    Story coin(int tongue, int meaning, String text) {
        return fed(text).then("coin", tongue, meaning);
    }

    /** New TONGUES with one row of WORDS each, of MEANINGS 0 on; - is none. The first one is TONGUE first. */
    Story words(int first, String... rows) {
        Story told = this;
        for (int t = 0; t < rows.length; t++) {
            told = told.then("tongue");
            String[] words = rows[t].split(" ");
            for (int m = 0; m < words.length; m++) {
                if (!words[m].equals("-")) told = told.coin(first + t, m, words[m]);
            }
        }
        return told;
    }

    static Story told(String... rows) {
        return NEW.words(0, rows);
    }

    int size() {
        return calls.size();
    }

    SmallTongues live() {
        SmallTongues lived = new SmallTongues();
        for (Call call : calls) call.on(lived);
        return lived;
    }
}
