import java.io.IOException;
import java.lang.reflect.Method;
import java.lang.reflect.Modifier;
import java.nio.file.Files;
import java.nio.file.Path;
import java.util.Arrays;
import java.util.Set;
import java.util.TreeSet;
import java.util.regex.Matcher;
import java.util.regex.Pattern;

/** Makes the calls that README.md shows: each answers the number that its comment begins with. */
public final class ReadmeTest {
    private static final Check CHECK = new Check();
    private static final Pattern CALL =
        Pattern.compile("(?m)^p\\.(\\w+)\\(([-\\w, ]*)\\);\\s*// (-?\\d+|BAD_ARG|NONE)\\b");

    public static void main(String[] args) throws IOException, ReflectiveOperationException {
        String readme = Files.readString(Path.of("README.md"));
        Set<String> shown = makeTheCalls(readme);
        showsEveryMethod(shown);
        CHECK.holds("README.md says how to run the tests", readme.contains("\n    .ci/run\n"));
        namesEveryTest(readme);
        CHECK.end();
    }

    /** Answers the names of the methods called. */
    private static Set<String> makeTheCalls(String readme) throws ReflectiveOperationException {
        PathProfiler p = new PathProfiler();
        Set<String> shown = new TreeSet<>();
        Matcher call = CALL.matcher(readme);
        int made = 0;
        while (call.find()) {
            Object[] numbers = Arrays.stream(numbers(call.group(2))).boxed().toArray();
            int got = (int) method(call.group(1)).invoke(p, numbers);
            CHECK.due(call.group(1) + "(" + call.group(2) + ")", got, answer(call.group(3)));
            shown.add(call.group(1));
            made++;
        }
        long calls = readme.lines().filter(line -> line.startsWith("p.")).count();
        CHECK.due("calls that tell their answer", made, calls);
        return shown;
    }

    private static void showsEveryMethod(Set<String> shown) {
        for (Method method : PathProfiler.class.getDeclaredMethods()) {
            if (Modifier.isPublic(method.getModifiers())) {
                CHECK.holds("README.md shows " + method.getName(), shown.contains(method.getName()));
            }
        }
    }

    private static int[] numbers(String list) {
        return Arrays.stream(list.split(",")).map(String::trim).filter(word -> !word.isEmpty())
            .mapToInt(word -> word.startsWith("0b") ? Integer.parseInt(word.substring(2), 2)
                : Integer.parseInt(word)).toArray();
    }

    private static Method method(String name) {
        return Arrays.stream(PathProfiler.class.getMethods())
            .filter(method -> method.getName().equals(name)).findFirst().orElseThrow();
    }

    private static int answer(String word) {
        return switch (word) {
            case "BAD_ARG" -> PathProfiler.BAD_ARG;
            case "NONE" -> PathProfiler.NONE;
            default -> Integer.parseInt(word);
        };
    }

    private static void namesEveryTest(String readme) throws IOException {
        try (var files = Files.list(Path.of("src/test/java"))) {
            for (Path file : files.sorted().toList()) {
                String name = file.getFileName().toString().replace(".java", "");
                CHECK.holds("README.md names " + name, readme.contains("`" + name + "`"));
            }
        }
    }
}
