import java.io.IOException;
import java.nio.file.Files;
import java.nio.file.Path;
import java.util.ArrayList;
import java.util.HashMap;
import java.util.List;
import java.util.Map;
import java.util.regex.Matcher;
import java.util.regex.Pattern;

/** README.md says of the class what is so: its example, its tables of calls and of refusals. */
public final class ReadmeTest {
    private static final Due DUE = new Due("ReadmeTest");
    private static final Pattern LINE = Pattern.compile("(?:int (\\w+) = )?x\\.(\\w+)\\(([^)]*)\\); +// (-?\\d+).*");
    private static final String MAKING = "SmallTongues x = new SmallTongues();";

    private static List<String> found(String text, String sought) {
        List<String> found = new ArrayList<>();
        Matcher matcher = Pattern.compile(sought, Pattern.MULTILINE).matcher(text);
        while (matcher.find()) found.add(matcher.group(matcher.groupCount()));
        return found;
    }

    /** Every line of the example is made, and answers what stands behind it. */
    private static void example(String readme) {
        List<String> blocks = found(readme, "(?s)```java\n(.*?)```");
        DUE.so("there is an example", !blocks.isEmpty());
        for (String block : blocks) {
            SmallTongues tongues = new SmallTongues();
            Map<String, Integer> named = new HashMap<>();
            String[] lines = block.split("\n");
            DUE.so("the example makes an object: " + lines[0], lines[0].equals(MAKING));
            for (int i = 1; i < lines.length; i++) {
                Matcher line = LINE.matcher(lines[i]);
                boolean reads = line.matches();
                DUE.so("a call with its answer: " + lines[i], reads);
                if (!reads) continue;
                int answer = new Call(line.group(2), given(line.group(3), named)).on(tongues);
                if (line.group(1) != null) named.put(line.group(1), answer);
                DUE.is(lines[i], answer, Integer.parseInt(line.group(4)));
            }
        }
    }

    private static Object[] given(String told, Map<String, Integer> named) {
        String[] parts = told.isEmpty() ? new String[0] : told.split(", ");
        Object[] given = new Object[parts.length];
        for (int i = 0; i < parts.length; i++) {
            if (parts[i].equals("true") || parts[i].equals("false")) given[i] = parts[i].equals("true");
            else if (named.containsKey(parts[i])) given[i] = named.get(parts[i]);
            else given[i] = Long.decode(parts[i].replace("L", ""));
        }
        return given;
    }

    /** The tables have the calls of the document's face, each once and as they come there. */
    private static void calls(String readme, String document) {
        List<String> due = found(document, "^    public int (.+);$");
        List<String> told = found(readme, "^\\| `(\\w+\\(.*?\\))` \\|");
        DUE.is("calls of the document's face", due.size(), 37);
        DUE.is("calls in the tables", told.size(), due.size());
        for (int i = 0; i < due.size() && i < told.size(); i++) DUE.so("call " + i + " is " + due.get(i), told.get(i).equals(due.get(i)));
    }

    /** A call's last column has the refusals that its promise tells, in the same order. */
    private static void refusals(String readme, String document) {
        for (String call : found(document, "^    public int (.+);$")) {
            String promise = only(document, "^`int " + Pattern.quote(call) + "`: (.+)$");
            String column = only(readme, "^\\| `" + Pattern.quote(call) + "` \\|.*\\|(.*)\\|$");
            String refusal = "\\b(NONE|BAD|STATE|FULL)\\b";
            DUE.so(call + " refuses as promised: " + promise, found(column, refusal).equals(found(promise, refusal)));
        }
        DUE.so("NONE is -1", readme.contains("| `NONE` | " + SmallTongues.NONE + " |"));
        DUE.so("BAD is -2", readme.contains("| `BAD` | " + SmallTongues.BAD + " |"));
        DUE.so("STATE is -3", readme.contains("| `STATE` | " + SmallTongues.STATE + " |"));
        DUE.so("FULL is -4", readme.contains("| `FULL` | " + SmallTongues.FULL + " |"));
    }

    private static String only(String text, String sought) {
        List<String> found = found(text, sought);
        DUE.is(sought + " stands once", found.size(), 1);
        return found.isEmpty() ? "" : found.get(0);
    }

    /** Whoever looks for a test file finds it named. */
    private static void tests(String readme) throws IOException {
        try (var files = Files.list(Path.of("src/test/java"))) {
            for (Path file : files.toList()) {
                String name = file.getFileName().toString().replace(".java", "");
                DUE.so(name + " is told of", Pattern.compile("`(src/test/java/)?" + name + "(\\.java)?`").matcher(readme).find());
            }
        }
    }

    public static void main(String[] args) throws IOException {
        String readme = Files.readString(Path.of("README.md"));
        String document = Files.readString(Path.of("../shared/DOC.md"));
        example(readme);
        calls(readme, document);
        refusals(readme, document);
        tests(readme);
        DUE.end();
    }
}
