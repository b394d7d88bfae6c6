import java.io.IOException;
import java.lang.reflect.Method;
import java.nio.file.Files;
import java.nio.file.Path;
import java.util.ArrayList;
import java.util.HashSet;
import java.util.List;
import java.util.Set;
import java.util.TreeSet;
import java.util.regex.Matcher;
import java.util.regex.Pattern;
import java.util.stream.Stream;

/** README.md agrees with the class's face (NewHouseTest's matter), with what it answers, and with the tests there are. */
public final class ReadmeTest {
    /** Read from the project's folder, where .ci/run stands when it runs the tests. */
    private static final Path README = Path.of("README.md");
    private static final Path SOURCE = Path.of("src/main/java/FindingHouse.java");
    private static final Path TESTS = Path.of("src/test/java");

    private static final Pattern FACE = Pattern.compile("(?m)^    public ((?:int|boolean) \\w+\\(.*\\)) \\{$");
    private static final Pattern METHOD_ROW = Pattern.compile("(?m)^\\| `(.*?)` \\|");
    private static final Pattern EXAMPLE = Pattern.compile("(?s)```java\\n(.*?)```");
    private static final Pattern CALL = Pattern.compile("house\\.(\\w+)\\((.*)\\); +// (-?\\d+|true|false): \\S.*");
    private static final Pattern TEST_ROW = Pattern.compile("(?m)^\\| (\\w+Test) \\| \\S.* \\|$");

    private final Due due = new Due();
    private final String readme;

    private ReadmeTest(String readme) {
        this.readme = readme;
    }

    public static void main(String[] args) throws IOException, ReflectiveOperationException {
        ReadmeTest test = new ReadmeTest(Files.readString(README));
        test.tellsEachMethodOnce(Files.readString(SOURCE));
        test.exampleAnswersAsItSays();
        test.tellsEachTestOnce();
        test.due.close();
    }

    private static List<String> all(Pattern pattern, String text, int group) {
        List<String> found = new ArrayList<>();
        for (Matcher matcher = pattern.matcher(text); matcher.find(); ) {
            found.add(matcher.group(group));
        }
        return found;
    }

    private void tellsEachMethodOnce(String source) {
        List<String> shown = all(FACE, source, 1);
        List<String> told = all(METHOD_ROW, readme, 1);
        due.same("methods shown", shown.size(), 16);
        due.same("methods told", told.size(), shown.size());
        for (String method : shown) {
            due.holds("tells of " + method, told.contains(method));
        }
    }

    private void exampleAnswersAsItSays() throws ReflectiveOperationException {
        List<String> examples = all(EXAMPLE, readme, 1);
        due.same("examples", examples.size(), 1);
        Set<String> called = new HashSet<>();
        for (String example : examples) {
            FindingHouse house = new FindingHouse();
            String[] lines = example.split("\n");
            due.holds("it begins with a new one", lines[0].equals("FindingHouse house = new FindingHouse();"));
            for (int k = 1; k < lines.length; k++) {
                Matcher call = CALL.matcher(lines[k]);
                due.holds("says what it answers: " + lines[k], call.matches());
                if (call.matches()) {
                    called.add(call.group(1));
                    String answer = String.valueOf(answer(house, call.group(1), call.group(2)));
                    due.holds(lines[k] + " It answered " + answer, answer.equals(call.group(3)));
                }
            }
        }
        due.same("methods that the example calls", called.size(), 16);
    }

    private static Object answer(FindingHouse house, String name, String arguments) throws ReflectiveOperationException {
        List<Object> numbers = new ArrayList<>();
        for (String argument : arguments.split(", ")) {
            if (!argument.isEmpty()) {
                numbers.add(numberOf(argument));
            }
        }
        Class<?>[] types = new Class<?>[numbers.size()];
        java.util.Arrays.fill(types, int.class);
        Method method = FindingHouse.class.getMethod(name, types);
        return method.invoke(house, numbers.toArray());
    }

    /** Sums of products of numbers are all that the example writes. */
    private static int numberOf(String argument) {
        int sum = 0;
        for (String part : argument.split(" \\+ ")) {
            int product = 1;
            for (String factor : part.split(" \\* ")) {
                product *= Long.decode(factor).intValue();
            }
            sum += product;
        }
        return sum;
    }

    private void tellsEachTestOnce() throws IOException {
        Set<String> there = new TreeSet<>();
        try (Stream<Path> files = Files.list(TESTS)) {
            files.map(file -> file.getFileName().toString()).filter(name -> name.endsWith("Test.java"))
                .forEach(name -> there.add(name.substring(0, name.length() - ".java".length())));
        }
        List<String> told = all(TEST_ROW, readme, 1);
        due.same("tests told", told.size(), there.size());
        for (String test : there) {
            due.holds("tells of " + test, told.contains(test));
        }
    }
}
