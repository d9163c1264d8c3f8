import java.io.IOException;
import java.lang.reflect.Method;
import java.lang.reflect.Modifier;
import java.nio.file.Files;
import java.nio.file.Path;
import java.util.ArrayList;
import java.util.List;
import java.util.regex.Matcher;
import java.util.regex.Pattern;
import java.util.stream.Stream;

/** What README.md says of the use and of the tests: its example answers so, no call and no test is left out. */
public final class ReadmeTest {
    private static final Pattern EXAMPLE = Pattern.compile("(?s)```java\n(.*?)```");
    private static final Pattern NEW = Pattern.compile("TongueRooms x = new TongueRooms\\(\\);");
    private static final Pattern FEED = Pattern.compile("for \\(char c : \"([^\"]*)\"\\.toCharArray\\(\\)\\) x\\.feed\\(c\\);");
    private static final Pattern CALL = Pattern.compile("x\\.(\\w+)\\(([-\\d, ]*)\\); +// (-?\\d+): .*");
    private static int wrong = 0;

    private static void due(boolean holds, String what) {
        if (!holds) {
            wrong++;
            System.out.println(what);
        }
    }

    /** The lines of the example as steps; one that is not understood is a fault, so that none goes untried. */
    private static List<String> stepsOf(String readme) {
        List<String> steps = new ArrayList<>();
        Matcher example = EXAMPLE.matcher(readme);
        due(example.find(), "README.md has no example");
        for (String line : wrong == 0 ? example.group(1).split("\n") : new String[0]) {
            Matcher feed = FEED.matcher(line);
            Matcher call = CALL.matcher(line);
            if (feed.matches()) for (char c : feed.group(1).toCharArray()) steps.add("feed " + (int) c + " = _");
            else if (call.matches()) steps.add(call.group(1) + " " + call.group(2).replace(",", "") + " = " + call.group(3));
            else due(NEW.matcher(line).matches(), "the example's line is not understood: " + line);
        }
        return steps;
    }

    private static void namesCalls(String readme) {
        for (Method m : TongueRooms.class.getDeclaredMethods()) {
            if (!Modifier.isPublic(m.getModifiers())) continue;
            due(readme.contains("`" + m.getName() + "`"), "README.md does not name the call " + m.getName());
        }
    }

    private static void namesTests(String readme, Path tests) throws IOException {
        List<String> names;
        try (Stream<Path> files = Files.list(tests)) {
            names = files.map(f -> f.getFileName().toString()).filter(f -> f.endsWith("Test.java"))
                .map(f -> f.replace(".java", "")).toList();
        }
        for (String name : names) due(readme.contains("- `" + name + "`: "), "README.md does not name the test " + name);
        Matcher told = Pattern.compile("- `(\\w+)`: ").matcher(readme);
        while (told.find()) due(names.contains(told.group(1)), "there is no test " + told.group(1));
    }

    public static void main(String[] args) throws IOException {
        Path root = Path.of(System.getProperty("project.root", "."));
        String readme = Files.readString(root.resolve("README.md"));
        List<String> steps = stepsOf(readme);
        wrong += Steps.wrongOf("README.md", steps.toArray(new String[0]));
        namesCalls(readme);
        namesTests(readme, root.resolve("src/test/java"));
        System.out.println(wrong == 0 ? "README.md says what is so" : wrong + " faults of README.md");
        if (wrong != 0) System.exit(1);
    }
}
