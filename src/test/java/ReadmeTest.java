import java.io.IOException;
import java.lang.reflect.Method;
import java.nio.file.Files;
import java.nio.file.Path;
import java.util.ArrayList;
import java.util.Arrays;
import java.util.HashMap;
import java.util.HashSet;
import java.util.List;
import java.util.Map;
import java.util.Set;
import java.util.regex.Matcher;
import java.util.regex.Pattern;
import java.util.stream.Collectors;
import java.util.stream.Stream;

/** What README.md says of using the class and of running its tests is so. */
public final class ReadmeTest {
    private static final String NEW_STORE = "DocTrees store = new DocTrees();";
    /** A call, perhaps named, and a comment that begins with the answer. */
    private static final Pattern LINE = Pattern.compile(
            "(?:int (\\w+) = )?store\\.(\\w+)\\(([^()]*)\\);\\s+// ([-\\w]+)(?:: .*)?");

    private static final Due due = new Due();

    private final DocTrees store = new DocTrees();
    private final Map<String, Integer> names = new HashMap<>();
    private final Set<String> called = new HashSet<>();

    public static void main(String[] args) throws IOException, ReflectiveOperationException {
        Path root = Path.of(args.length > 0 ? args[0] : ".");
        String readme = Files.readString(root.resolve("README.md"));
        List<String> examples = blocks(readme, "java");
        due.is("examples", examples.size(), 1);
        for (String example : examples) {
            new ReadmeTest().run(example.lines().collect(Collectors.toList()));
        }
        everyCallIsTold(readme);
        theTestsAreRun(root, readme);
        due.end();
    }

    private static List<String> blocks(String readme, String language) {
        List<String> found = new ArrayList<>();
        Matcher block = Pattern.compile("(?s)```" + language + "\n(.*?)```").matcher(readme);
        while (block.find()) {
            found.add(block.group(1));
        }
        return found;
    }

    private void run(List<String> lines) throws ReflectiveOperationException {
        due.holds("the example makes a store first", lines.get(0).equals(NEW_STORE));
        for (String line : lines.subList(1, lines.size())) {
            Matcher parts = LINE.matcher(line);
            due.holds("a call with its answer: " + line, parts.matches());
            if (parts.matches()) {
                answerOf(line, parts);
            }
        }
        for (Method method : DocTrees.class.getMethods()) {
            if (method.getDeclaringClass() == DocTrees.class) {
                due.holds("the example calls " + method.getName(),
                        called.contains(method.getName()));
            }
        }
    }

    private void answerOf(String line, Matcher parts) throws ReflectiveOperationException {
        Object[] values = Stream.of(parts.group(3).split(", ")).map(this::value).toArray();
        Class<?>[] types = new Class<?>[values.length];
        Arrays.fill(types, int.class);
        Method method = DocTrees.class.getMethod(parts.group(2), types);
        Object answer = method.invoke(store, values);
        called.add(method.getName());
        due.holds(line + " answered " + answer, answer.equals(shown(parts.group(4))));
        if (parts.group(1) != null) {
            due.holds("an int is named: " + line, answer instanceof Integer);
            names.put(parts.group(1), (Integer) answer);
        }
    }

    private Integer value(String text) {
        return names.containsKey(text) ? names.get(text) : Integer.valueOf(text);
    }

    private static Object shown(String text) throws ReflectiveOperationException {
        if (text.equals("true") || text.equals("false")) {
            return Boolean.valueOf(text);
        }
        boolean constant = Character.isUpperCase(text.charAt(0));
        return constant ? DocTrees.class.getField(text).get(null) : Integer.valueOf(text);
    }

    private static void everyCallIsTold(String readme) {
        for (Method method : DocTrees.class.getMethods()) {
            if (method.getDeclaringClass() == DocTrees.class) {
                Matcher told = Pattern.compile("(?m)^\\| `" + method.getName() + "\\(([\\w, ]*)\\)`")
                        .matcher(readme);
                due.holds("the table has " + method.getName(), told.find()
                        && told.group(1).split(", ").length == method.getParameterCount());
            }
        }
    }

    /** The run takes the files whose names end in Test, so a test with another name is left out. */
    private static void theTestsAreRun(Path root, String readme) throws IOException {
        due.holds("the README gives .ci/run", blocks(readme, "sh").contains(".ci/run\n"));
        due.holds(".ci/run can be run", Files.isExecutable(root.resolve(".ci/run")));
        List<Path> files;
        try (Stream<Path> found = Files.walk(root.resolve("src/test"))) {
            files = found.filter(Files::isRegularFile).collect(Collectors.toList());
        }
        for (Path file : files) {
            String name = file.getFileName().toString();
            if (Files.readString(file).contains("void main(")) {
                due.holds(".ci/run takes " + file, name.endsWith("Test.java")
                        && file.getParent().equals(root.resolve("src/test/java")));
                due.holds("the README names " + name,
                        readme.contains("`" + name.replace(".java", "") + "`"));
            }
        }
        Matcher named = Pattern.compile("`(\\w+Test)`").matcher(readme);
        while (named.find()) {
            due.holds("there is a " + named.group(1), Files.isRegularFile(
                    root.resolve("src/test/java/" + named.group(1) + ".java")));
        }
    }
}
