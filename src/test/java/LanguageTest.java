import java.io.IOException;
import java.nio.file.Files;
import java.nio.file.Path;
import java.util.regex.Matcher;
import java.util.regex.Pattern;

/** The rules of LANGUAGE.md that the words of the source can show to be broken. */
public final class LanguageTest {
    private static final String[] FORBIDDEN_WORDS = {
        "package", "import", "float", "double", "String", "Object", "Math", "Integer", "Long",
        "System", "Arrays", "null", "throw", "throws", "try", "catch", "finally", "synchronized",
        "assert", "instanceof", "interface", "enum", "protected", "clone",
        "getClass", "hashCode", "equals", "toString", "notify", "wait"};

    private static final Due due = new Due();

    public static void main(String[] args) throws IOException {
        Path root = Path.of(args.length > 0 ? args[0] : ".");
        String source = Files.readString(root.resolve("src/main/java/DocTrees.java"));
        String code = source.replaceAll("(?s)/\\*.*?\\*/", " ").replaceAll("//[^\n]*", " ");
        for (String word : FORBIDDEN_WORDS) {
            due.holds("no word " + word, !found(code, "\\b" + word + "\\b"));
        }
        due.holds("no text", !found(code, "\""));
        due.holds("no lambda", !found(code, "->"));
        due.holds("no method reference", !found(code, "::"));
        due.holds("no array of arrays", !found(code, "\\]\\s*\\["));
        due.holds("one class", !found(code, "(?s)\\bclass\\b.*\\bclass\\b"));
        due.holds("no static initialiser", !found(code, "\\bstatic\\s*\\{"));
        due.holds("no record", !found(code, "\\brecord\\s+\\w+\\s*[(<]"));
        arraysAreMadeAtTheStart(code);
        due.end();
    }

    /** Rule 4: in the constructor, or in a field's initialiser, which is in no member's braces. */
    private static void arraysAreMadeAtTheStart(String code) {
        Matcher making = Pattern.compile("\\bnew\\b").matcher(code);
        while (making.find()) {
            String member = memberAround(code, making.start());
            due.holds("no array is made in: " + member.strip(),
                    member.isEmpty() || member.contains("public DocTrees("));
        }
    }

    /** What stands before the member's opening brace; nothing if the place is in no such braces. */
    private static String memberAround(String code, int place) {
        int depth = 0;
        int opened = 0;
        for (int at = 0; at < place; at++) {
            if (code.charAt(at) == '{') {
                depth++;
                opened = depth == 2 ? at : opened;
            } else if (code.charAt(at) == '}') {
                depth--;
            }
        }
        if (depth < 2) {
            return "";
        }
        int before = Math.max(code.lastIndexOf('}', opened), code.lastIndexOf(';', opened));
        return code.substring(before + 1, opened);
    }

    private static boolean found(String code, String pattern) {
        return Pattern.compile(pattern).matcher(code).find();
    }
}
