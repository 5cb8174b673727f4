import java.lang.reflect.Method;
import java.lang.reflect.Modifier;
import java.nio.file.Files;
import java.nio.file.Path;
import java.util.List;
import java.util.regex.Matcher;
import java.util.regex.Pattern;
import java.util.stream.Stream;

/** README.md: the calls of its example answer as told there, and it names every call and every test. */
public final class ReadmeTest {
    private static final Checks checks = new Checks("ReadmeTest");
    private static final Pattern CALL = Pattern.compile("roof\\.(\\w+)\\(([\\d, ]*)\\); *// (-?\\d+):.*");
    private static final Pattern TEXT = Pattern.compile("String text = \"([^\"]*)\";");

    public static void main(String[] args) throws Exception {
        String page = Files.readString(Path.of("README.md"));
        example(page);
        calls(page);
        tests(page);
        checks.end();
    }

    private static void example(String page) throws Exception {
        RoofCourses roof = new RoofCourses();
        int made = 0;
        long told = page.lines().filter(line -> line.startsWith("roof.")).count();
        for (String line : page.split("\n")) {
            Matcher text = TEXT.matcher(line);
            Matcher call = CALL.matcher(line);
            if (text.matches()) {
                Checks.write(roof, text.group(1));
            } else if (call.matches()) {
                checks.due(line, answer(roof, call.group(1), call.group(2)), Integer.parseInt(call.group(3)));
                made++;
            }
        }
        checks.due("calls of the example that are made", made, told);
        checks.due("there is an example", made > 0 ? 1 : 0, 1);
    }

    private static int answer(RoofCourses roof, String name, String numbers) throws Exception {
        Object[] given = Stream.of(numbers.split(", *")).filter(n -> !n.isEmpty()).map(Integer::valueOf).toArray();
        Class<?>[] types = Stream.of(given).map(n -> int.class).toArray(Class<?>[]::new);
        return (int) RoofCourses.class.getMethod(name, types).invoke(roof, given);
    }

    private static void calls(String page) {
        for (Method method : RoofCourses.class.getDeclaredMethods()) {
            if (Modifier.isPublic(method.getModifiers())) {
                Pattern inTable = Pattern.compile("(?m)^\\|.*`" + method.getName() + "\\(.*$");
                checks.due(method.getName() + " stands in the table", inTable.matcher(page).find() ? 1 : 0, 1);
            }
        }
    }

    private static void tests(String page) throws Exception {
        try (Stream<Path> files = Files.list(Path.of("src/test/java"))) {
            List<String> names = files.map(f -> f.getFileName().toString()).filter(n -> n.endsWith("Test.java")).toList();
            for (String file : names) {
                String row = "| `" + file.replace(".java", "") + "` |";
                checks.due(file + " stands in the table", page.contains(row) ? 1 : 0, 1);
            }
        }
    }
}
