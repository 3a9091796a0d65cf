import java.io.IOException;
import java.lang.reflect.InvocationTargetException;
import java.lang.reflect.Method;
import java.lang.reflect.Modifier;
import java.nio.file.Files;
import java.nio.file.Path;
import java.util.Set;
import java.util.TreeSet;
import java.util.regex.Matcher;
import java.util.regex.Pattern;
import java.util.stream.Collectors;
import java.util.stream.Stream;

/** What README.md says: the answers of its example, all methods, all tests. */
public final class ReadmeTest {
    private static final Check check = new Check();
    private static final String BEGINNING = "SeasonalAdjuster x = new SeasonalAdjuster();";
    private static final Pattern CALL = Pattern.compile(
            "x\\.(\\w+)\\((-?\\d*)\\); *(?:// (true|false|throws \\w+|-?\\d+)(?:, .*)?)?");

    public static void main(String[] args) throws Exception {
        String readme = Files.readString(Path.of("README.md"));
        example(readme);
        namesEveryMethod(readme);
        namesEveryTest(readme);
        leastLengths();
        check.finish();
    }

    // A line that is no call, or a call that throws without a word of it, would be a wrong example.
    private static void example(String readme) throws ReflectiveOperationException {
        String block = readme.replaceAll("(?s).*```java\n(.*?)```.*", "$1");
        check.isTrue("the example begins with a new object", block.startsWith(BEGINNING));
        SeasonalAdjuster x = new SeasonalAdjuster();
        for (String line : block.substring(BEGINNING.length()).strip().split("\n")) {
            Matcher call = CALL.matcher(line);
            check.isTrue("a call of the example: " + line, call.matches());
            if (call.matches()) {
                String got = answer(x, call.group(1), call.group(2));
                check.same(line, got, call.group(3) == null ? got.replace("throws", "no exception,") : call.group(3));
            }
        }
    }

    private static String answer(SeasonalAdjuster x, String name, String argument) throws ReflectiveOperationException {
        try {
            return argument.isEmpty() ? SeasonalAdjuster.class.getMethod(name).invoke(x).toString()
                    : SeasonalAdjuster.class.getMethod(name, int.class).invoke(x, Integer.parseInt(argument)).toString();
        } catch (InvocationTargetException e) {
            return "throws " + e.getCause().getClass().getSimpleName();
        }
    }

    private static void namesEveryMethod(String readme) {
        for (Method method : SeasonalAdjuster.class.getDeclaredMethods()) {
            if (Modifier.isPublic(method.getModifiers())) {
                check.isTrue(method.getName() + " is named", readme.contains("`" + method.getName() + "`"));
            }
        }
    }

    private static void namesEveryTest(String readme) throws IOException {
        Set<String> named = new TreeSet<>();
        Matcher name = Pattern.compile("`(\\w+Test)`").matcher(readme);
        while (name.find()) {
            named.add(name.group(1));
        }
        try (Stream<Path> files = Files.list(Path.of("src/test/java"))) {
            Set<String> there = files.map(file -> file.getFileName().toString().replace(".java", ""))
                    .filter(file -> file.endsWith("Test")).collect(Collectors.toCollection(TreeSet::new));
            check.same("the tests that are named", named.toString(), there.toString());
        }
    }

    private static void leastLengths() {
        for (int period = 2; period <= 12; period++) {
            int least = Math.max(5, period % 2 == 0 ? 2 * period : 2 * period - 1);
            for (int length = least - 1; length <= least; length++) {
                SeasonalAdjuster x = Make.rising(length, SeasonalAdjuster.ADDITIVE);
                x.setPeriod(period);
                check.isTrue("P = " + period + ", n = " + length, x.canDecompose() == (length == least));
            }
        }
    }
}
