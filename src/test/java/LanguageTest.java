import java.io.IOException;
import java.nio.file.Files;
import java.nio.file.Path;
import java.util.regex.Pattern;

/** The rules of LANGUAGE.md that the words of the source can show to be broken. */
public final class LanguageTest {
    private static final String[] FORBIDDEN_WORDS = {
        "package", "import", "float", "double", "String", "Object", "Math", "Integer", "Long",
        "System", "Arrays", "null", "throw", "throws", "try", "catch", "finally", "synchronized",
        "assert", "instanceof", "interface", "enum", "record", "var", "protected", "clone",
        "getClass", "hashCode", "equals", "toString", "notify", "wait"};

    private static final Due due = new Due();

    public static void main(String[] args) throws IOException {
        Path root = Path.of(args.length > 0 ? args[0] : ".");
        String source = Files.readString(root.resolve("src/main/java/DocTrees.java"));
        String code = source.replaceAll("(?s)/\\*.*?\\*/", " ").replaceAll("//[^\n]*", " ");
        for (String word : FORBIDDEN_WORDS) {
            due.holds("no word " + word, !found(code, "\\b" + word + "\\b"));
        }
        due.holds("no text", !found(code, "\""));
        due.holds("no lambda", !found(code, "->"));
        due.holds("no method reference", !found(code, "::"));
        due.holds("no array of arrays", !found(code, "\\]\\s*\\["));
        due.holds("one class", !found(code, "(?s)\\bclass\\b.*\\bclass\\b"));
        due.holds("no static initialiser", !found(code, "\\bstatic\\s*\\{"));
        due.holds("arrays are made in fields alone",
                !found(code, "(?m)^(?!    private final ).*\\bnew\\b"));
        due.end();
    }

    private static boolean found(String code, String pattern) {
        return Pattern.compile(pattern).matcher(code).find();
    }
}
