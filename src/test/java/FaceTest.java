import java.io.IOException;
import java.lang.reflect.Constructor;
import java.lang.reflect.Field;
import java.lang.reflect.Method;
import java.lang.reflect.Modifier;
import java.nio.file.Files;
import java.nio.file.Path;
import java.util.TreeSet;
import java.util.regex.Pattern;

/** The public face is the document's and no more, and the text keeps to what LANGUAGE.md says of it. */
public final class FaceTest {
    private static final Due DUE = new Due("FaceTest");
    private static final String SOURCE = "src/main/java/SmallTongues.java";
    private static final String[] FACE = {
        "tongue()", "years(int)", "feed(long,int)", "law()", "coin(int,int)", "sound(int,int)", "shorten(int,int)",
        "loan(int,int,int)", "forget(int,int)", "split(int)", "word(int,int,int)", "open()", "truth(int,int,int)",
        "from(int,int)", "event(int,int)", "limit(int)", "hole(int,int,boolean)", "cost(int,int,int)",
        "way(int,int,int,int)", "kin(int,int,int)", "set(int,int)", "odds(int,int,int,int)", "matches(int,int,int,int)",
        "far(int,int,int)", "borrowed(int,int,int)", "old(int,int)", "best(int,int,int,int)", "feeds(int,int,int)",
        "steps(int,int)", "tree(int,int)", "claim(int,int,int,boolean,int)", "right(int)", "sure(int,int)",
        "act(int,int,int)", "trace(int)", "as(int,int)", "count(int)"};
    private static final String[] FORBIDDEN = {"throw", "try", "catch", "synchronized", "assert", "protected", "import",
        "package", "hashCode", "toString", "System\\.(?!arraycopy)", "Exception", "->", "::", "@", "\\bvar\\b", "Object",
        "Exact\\(", "\"", "new \\w+\\([^()]*\\) \\{"};

    private static void methods() {
        TreeSet<String> names = new TreeSet<>();
        TreeSet<String> shown = new TreeSet<>();
        for (String call : FACE) names.add(call.substring(0, call.indexOf('(')));
        for (Method method : SmallTongues.class.getDeclaredMethods()) {
            StringBuilder call = new StringBuilder(method.getName()).append('(');
            for (Class<?> type : method.getParameterTypes()) {
                call.append(call.charAt(call.length() - 1) == '(' ? "" : ",").append(type.getName());
            }
            if (Modifier.isPrivate(method.getModifiers())) {
                DUE.so("private " + call + ") bears a name of its own", !names.contains(method.getName()));
                DUE.so(call + ") has seven parameters at most", method.getParameterCount() <= 7);
            } else {
                shown.add(call.append(')').toString());
                DUE.so(call + " is public, of the object, and answers an int",
                    method.getModifiers() == Modifier.PUBLIC && method.getReturnType() == int.class);
            }
        }
        DUE.is("methods", shown.size(), 37);
        for (String call : FACE) DUE.so("there is " + call, shown.contains(call));
    }

    private static void fieldsAndClasses() {
        int constants = 0, own = 0;
        for (Field field : SmallTongues.class.getDeclaredFields()) {
            boolean shown = !Modifier.isPrivate(field.getModifiers());
            if (shown) constants++;
            DUE.so(field.getName() + " is private or a constant",
                !shown || field.getModifiers() == (Modifier.PUBLIC | Modifier.STATIC | Modifier.FINAL) && field.getType() == int.class);
            if (Modifier.isStatic(field.getModifiers())) {
                DUE.so(field.getName() + " is final", Modifier.isFinal(field.getModifiers()));
            } else {
                own++;
            }
        }
        DUE.is("public constants", constants, 4);
        DUE.so("some twenty fields", own <= 20);
        Constructor<?>[] constructors = SmallTongues.class.getDeclaredConstructors();
        DUE.is("constructors", constructors.length, 1);
        DUE.so("it is public and takes nothing", constructors[0].getParameterCount() == 0 && Modifier.isPublic(constructors[0].getModifiers()));
        DUE.is("the class is public and final", SmallTongues.class.getModifiers(), Modifier.PUBLIC | Modifier.FINAL);
        Class<?>[] inside = SmallTongues.class.getDeclaredClasses();
        DUE.so("twelve classes at most", inside.length + 1 <= 12);
        for (Class<?> nested : inside) {
            DUE.so(nested + " is static and not public",
                Modifier.isStatic(nested.getModifiers()) && !Modifier.isPublic(nested.getModifiers()));
            DUE.is("classes inside " + nested, nested.getDeclaredClasses().length, 0);
        }
        DUE.is("NONE", SmallTongues.NONE, -1);
        DUE.is("BAD", SmallTongues.BAD, -2);
        DUE.is("STATE", SmallTongues.STATE, -3);
        DUE.is("FULL", SmallTongues.FULL, -4);
    }

    private static void text() throws IOException {
        String source = Files.readString(Path.of(SOURCE));
        String code = source.replaceAll("(?s)/\\*.*?\\*/", "").replaceAll("//[^\n]*", "");
        for (String word : FORBIDDEN) {
            String sought = Character.isLetter(word.charAt(0)) ? "\\b" + word : word;
            DUE.so("no " + word, !Pattern.compile(sought).matcher(code).find());
        }
        DUE.so("signs below 128 alone", source.chars().allMatch(c -> c < 128));
        int start = 0;
        String[] lines = source.split("\n");
        for (int i = 0; i < lines.length; i++) {
            if (lines[i].matches(" {4}( {4})?\\w.*\\) \\{")) start = i;
            if (lines[i].matches(" {4}( {4})?\\}")) DUE.so("lines of the method at " + (start + 1), i - start < 60);
        }
    }

    public static void main(String[] args) throws IOException {
        methods();
        fieldsAndClasses();
        text();
        DUE.end();
    }
}
