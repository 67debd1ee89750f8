import java.io.IOException;
import java.lang.reflect.Method;
import java.nio.file.Files;
import java.nio.file.Path;
import java.util.List;
import java.util.Map;
import java.util.Set;
import java.util.TreeSet;
import java.util.regex.Matcher;
import java.util.regex.Pattern;
import java.util.stream.Collectors;
import java.util.stream.Stream;

/**
 * README.md: every call that it shows is made, and answered as shown by the class and by the
 * Model of the document; every public method and constant is shown, and every test named.
 */
public final class ReadmeTest {
    private static final Path README = Path.of("README.md");
    private static final Path TESTS = Path.of("src", "test", "java");

    private static final String NEW_OBJECT = "HeadTail x = new HeadTail();";
    private static final Pattern CALL = Pattern.compile("x\\.(\\w+)\\((.*)\\); *// ([\\w-]+)(: .*)?");
    private static final Pattern TEST_NAME = Pattern.compile("`(\\w+Test)`");

    private static final Map<String, String> CONSTANTS = Map.of(
        "BAD", "" + HeadTail.BAD, "FULL", "" + HeadTail.FULL, "NONE", "" + HeadTail.NONE);

    private final Set<String> shown = new TreeSet<>();
    private HeadTail x;
    private Model m;

    public static void main(String[] args) throws IOException, ReflectiveOperationException {
        List<String> lines = Files.readAllLines(README);
        ReadmeTest test = new ReadmeTest();
        test.runExamples(lines);
        test.showsTheWholeFace();
        namesEveryTest(lines);
        Check.end();
    }

    private void runExamples(List<String> lines) throws ReflectiveOperationException {
        boolean inExample = false;
        for (String line : lines) {
            if (line.startsWith("```")) {
                inExample = line.equals("```java");
            } else if (inExample && !line.isBlank()) {
                runLine(line);
            }
        }
    }

    private void runLine(String line) throws ReflectiveOperationException {
        if (line.equals(NEW_OBJECT)) {
            x = new HeadTail();
            m = new Model();
            return;
        }
        Matcher call = CALL.matcher(line);
        Check.due("a call and its answer: " + line, call.matches(), true);
        if (call.matches()) {
            String due = CONSTANTS.getOrDefault(call.group(3), call.group(3));
            Check.due("answered as in " + line, answer(x, call).equals(due), true);
            Check.due("due as in " + line, answer(m, call).equals(due), true);
            shown.add(call.group(1));
            shown.add(call.group(3));
        }
    }

    private static String answer(Object on, Matcher call) throws ReflectiveOperationException {
        Object[] numbers = Pattern.compile("-?\\d+").matcher(call.group(2)).results()
            .map(found -> Integer.valueOf(found.group())).toArray();
        for (Method each : on.getClass().getDeclaredMethods()) {
            if (each.getName().equals(call.group(1)) && each.getParameterCount() == numbers.length) {
                return each.invoke(on, numbers).toString();
            }
        }
        return "no such call";
    }

    private void showsTheWholeFace() {
        for (Method each : HeadTail.class.getMethods()) {
            if (each.getDeclaringClass() == HeadTail.class) {
                Check.due("README.md shows " + each.getName(), shown.contains(each.getName()), true);
            }
        }
        for (String each : CONSTANTS.keySet()) {
            Check.due("README.md shows " + each, shown.contains(each), true);
        }
    }

    private static void namesEveryTest(List<String> lines) throws IOException {
        Set<String> named = lines.stream().flatMap(line -> TEST_NAME.matcher(line).results())
            .map(found -> found.group(1)).collect(Collectors.toCollection(TreeSet::new));
        Set<String> there;
        try (Stream<Path> files = Files.list(TESTS)) {
            there = files.map(file -> file.getFileName().toString()).filter(name -> name.endsWith("Test.java"))
                .map(name -> name.replace(".java", "")).collect(Collectors.toCollection(TreeSet::new));
        }
        Check.due("README.md names " + named + ", there are " + there, named.equals(there), true);
    }
}
