import java.io.IOException;
import java.nio.file.Files;
import java.nio.file.Path;
import java.util.ArrayList;
import java.util.LinkedHashMap;
import java.util.List;
import java.util.Map;
import java.util.Set;
import java.util.TreeSet;
import java.util.regex.Matcher;
import java.util.regex.Pattern;

/** Rules 8 and 10 of LANGUAGE.md: how the methods of the class call each other. */
public final class CallsTest {
    private static final int DEEPEST = 6;
    private static final int MOST_LINES = 60;
    private static final Pattern METHOD =
            Pattern.compile("(?:public|private)[\\w\\s\\[\\]]*\\b(\\w+)\\([^()]*\\)\\s*\\{");

    private static final Due due = new Due();

    private final Map<String, String> bodies = new LinkedHashMap<>();

    public static void main(String[] args) throws IOException {
        Path root = Path.of(args.length > 0 ? args[0] : ".");
        String source = Files.readString(root.resolve("src/main/java/DocTrees.java"));
        String code = source.replaceAll("(?s)/\\*.*?\\*/", " ").replaceAll("//[^\n]*", " ");
        CallsTest test = new CallsTest(code);
        test.look();
        due.end();
    }

    private CallsTest(String code) {
        Matcher method = METHOD.matcher(code);
        while (method.find()) {
            int end = closing(code, method.end() - 1, '{', '}');
            due.holds("one method alone is called " + method.group(1),
                    bodies.put(method.group(1), code.substring(method.end(), end)) == null);
        }
    }

    private void look() {
        due.holds("the methods are found", bodies.size() == DocTrees.class.getDeclaredMethods().length
                + DocTrees.class.getDeclaredConstructors().length);
        for (Map.Entry<String, String> method : bodies.entrySet()) {
            due.holds(method.getKey() + " is short", method.getValue().lines().count() <= MOST_LINES);
            noCallInArguments(method.getKey(), method.getValue());
            goDown(method.getKey(), new ArrayList<>());
        }
    }

    private void goDown(String method, List<String> above) {
        List<String> way = new ArrayList<>(above);
        way.add(method);
        due.holds("no recursion: " + way, !above.contains(method));
        due.holds("at most six deep: " + way, way.size() <= DEEPEST);
        if (!above.contains(method)) {
            for (String next : calledIn(bodies.get(method))) {
                goDown(next, way);
            }
        }
    }

    private void noCallInArguments(String method, String body) {
        Matcher call = Pattern.compile("\\b(\\w+)\\s*\\(").matcher(body);
        while (call.find()) {
            if (bodies.containsKey(call.group(1))) {
                int end = closing(body, call.end() - 1, '(', ')');
                due.holds("no call in the arguments of " + call.group(1) + " in " + method,
                        calledIn(body.substring(call.end(), end)).isEmpty());
            }
        }
    }

    private Set<String> calledIn(String text) {
        Set<String> called = new TreeSet<>();
        Matcher call = Pattern.compile("\\b(\\w+)\\s*\\(").matcher(text);
        while (call.find()) {
            if (bodies.containsKey(call.group(1))) {
                called.add(call.group(1));
            }
        }
        return called;
    }

    private static int closing(String code, int opening, char open, char close) {
        int depth = 0;
        for (int at = opening; at < code.length(); at++) {
            depth += code.charAt(at) == open ? 1 : code.charAt(at) == close ? -1 : 0;
            if (depth == 0) {
                return at;
            }
        }
        return code.length();
    }
}
