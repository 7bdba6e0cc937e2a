import java.io.IOException;
import java.nio.file.Files;
import java.nio.file.Path;
import java.util.Arrays;
import java.util.List;
import java.util.regex.Matcher;
import java.util.regex.Pattern;

/** Each sentence of the document that names a boundary has a test of its own here, under its own words. */
public final class BoundsTest {
    private static final Due DUE = new Due("BoundsTest");
    private static final Path DOCUMENT = Path.of("../shared/DOC.md");

    private static String plain(String text) {
        return text.replace("```text", " ").replace("```", " ").replaceAll("\\s+", " ").trim();
    }

    /** No sentence that is asked for is another than the document's. */
    private static void wordByWord(String document, List<String> asked) {
        for (String sentence : asked) DUE.so("the document says: " + sentence, document.contains(sentence));
    }

    private static void everyPromise(String document, List<String> asked) {
        Matcher promise = Pattern.compile("## (Promise \\d+): .+?\n+`.+?`: (.+?)\n").matcher(document);
        int promises = 0;
        while (promise.find()) {
            promises++;
            DUE.so(promise.group(1) + " is asked for: " + promise.group(2), asked.contains(promise.group(2)));
        }
        DUE.is("promises", promises, 38);
    }

    /** Of what stands between the terms and the promises no word is left that no sentence asks for. */
    private static void everyTerm(String document, List<String> asked) {
        String terms = plain(document.substring(document.indexOf("## Terms") + 8, document.indexOf("Ahead of the calls `tongue`")));
        boolean[] isAsked = new boolean[terms.length()];
        for (String sentence : asked) {
            int at = terms.indexOf(sentence);
            if (at >= 0) Arrays.fill(isAsked, at, at + sentence.length(), true);
        }
        StringBuilder left = new StringBuilder();
        for (int i = 0; i < isAsked.length; i++) left.append(isAsked[i] ? ' ' : terms.charAt(i));
        DUE.so("nothing is left of the terms but: " + left.toString().trim(), left.toString().isBlank());
    }

    public static void main(String[] args) throws IOException {
        Bounds bounds = new Bounds(DUE);
        new TermsBounds(bounds).ask();
        new PartsBounds(bounds).ask();
        new WorldBounds(bounds).ask();
        new MachineBounds(bounds).ask();
        new RefusalBounds(bounds).ask();
        String document = Files.readString(DOCUMENT);
        wordByWord(plain(document), bounds.sentences());
        everyPromise(document, bounds.sentences());
        everyTerm(document, bounds.sentences());
        DUE.end();
    }
}
