import java.io.IOException;
import java.lang.reflect.Method;
import java.lang.reflect.Modifier;
import java.nio.charset.StandardCharsets;
import java.nio.file.Files;
import java.nio.file.Path;
import java.util.Arrays;
import java.util.regex.Matcher;
import java.util.regex.Pattern;

/** README.md: its example's calls answer what the comments behind them say, and it names every call and every test. */
public final class ReadmeTest {
    private static final Pattern CALL = Pattern.compile("x\\.(\\w+)\\(([^)]*)\\); +// (-?\\d+)\\b.*");

    public static void main(String[] args) throws IOException, ReflectiveOperationException {
        Bench bench = new Bench();
        String readme = Files.readString(Path.of("README.md"), StandardCharsets.UTF_8);
        dueExample(bench, readme);
        dueCalls(bench, readme);
        dueTests(bench, readme);
        bench.end();
    }

    private static void dueExample(Bench bench, String readme) throws ReflectiveOperationException {
        int from = readme.indexOf("```java\n");
        int behind = readme.indexOf("```\n", from + 1);
        bench.due("README.md has an example", from >= 0 && behind > from ? 1 : 0, 1);
        if (from < 0 || behind <= from) {
            return;
        }
        String[] lines = readme.substring(from, behind).split("\n");
        bench.due("the example's first line", lines[1], "PathHouse x = new PathHouse();");
        PathHouse x = new PathHouse();
        for (int k = 2; k < lines.length; k++) {
            Matcher call = CALL.matcher(lines[k]);
            boolean fits = call.matches();
            bench.due("a call with its answer: " + lines[k], fits ? 1 : 0, 1);
            if (fits) {
                bench.due(lines[k], answered(x, call.group(1), call.group(2)), Long.parseLong(call.group(3)));
            }
        }
    }

    private static long answered(PathHouse x, String name, String told) throws ReflectiveOperationException {
        String[] texts = told.isEmpty() ? new String[0] : told.split(", ");
        Class<?>[] types = new Class<?>[texts.length];
        Arrays.fill(types, int.class);
        Object[] numbers = new Object[texts.length];
        for (int k = 0; k < texts.length; k++) {
            numbers[k] = Long.decode(texts[k]).intValue();
        }
        return ((Number) PathHouse.class.getMethod(name, types).invoke(x, numbers)).longValue();
    }

    private static void dueCalls(Bench bench, String readme) {
        for (Method call : PathHouse.class.getDeclaredMethods()) {
            if (Modifier.isPublic(call.getModifiers())) {
                boolean told = Pattern.compile("(?m)^\\|.*`" + call.getName() + "\\(.*").matcher(readme).find();
                bench.due("README.md has a row of " + call.getName(), told ? 1 : 0, 1);
            }
        }
    }

    private static void dueTests(Bench bench, String readme) {
        String[] files = Path.of("src/test/java").toFile().list((place, name) -> name.endsWith("Test.java"));
        bench.due("there are tests", files != null && files.length > 0 ? 1 : 0, 1);
        for (String file : files == null ? new String[0] : files) {
            String row = "\n| `" + file.substring(0, file.length() - ".java".length()) + "` | ";
            bench.due("README.md has a row of " + file, readme.contains(row) ? 1 : 0, 1);
        }
    }
}
