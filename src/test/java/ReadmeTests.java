import java.io.IOException;
import java.lang.reflect.InvocationTargetException;
import java.lang.reflect.Method;
import java.nio.file.Files;
import java.nio.file.Path;
import java.util.List;
import java.util.regex.Matcher;
import java.util.regex.Pattern;
import java.util.stream.Collectors;
import java.util.stream.Stream;

/** README.md tells how things are now: its calls answer what it says, it names every test, .ci/run runs every one. */
public final class ReadmeTests {
    private static final Pattern CALL = Pattern.compile("x\\.(\\w+)\\(([^)]*)\\); +// (-?\\d+): .+");
    private static final Pattern TYPED = Pattern.compile("for \\(char c : \"([^\"]*)\"\\.toCharArray\\(\\)\\) x\\.type\\(c\\);");

    private ReadmeTests() {
    }

    public static void main(String[] args) throws IOException, ReflectiveOperationException {
        String readme = Files.readString(Path.of("README.md"));
        example(readme);
        files(readme);
        Check.end();
    }

    /** Every line of the example is a call with its answer, or one that is known to need none. */
    private static void example(String readme) throws ReflectiveOperationException {
        Matcher block = Pattern.compile("(?s)```java\\n(.*?)```").matcher(readme);
        Check.that("an example", block.find());
        WidowWeight x = new WidowWeight();
        int calls = 0;
        for (String line : block.group(1).split("\\n")) {
            Matcher call = CALL.matcher(line);
            Matcher typed = TYPED.matcher(line);
            if (call.matches()) {
                calls++;
                Check.due("README.md: " + line, answer(x, call.group(1), call.group(2)), Long.parseLong(call.group(3)));
            } else if (typed.matches()) {
                for (char c : typed.group(1).toCharArray()) {
                    x.type(c);
                }
            } else {
                Check.that("README.md, a line that can be looked at: " + line, line.isEmpty() || line.startsWith("// ")
                    || line.equals("WidowWeight x = new WidowWeight();"));
            }
        }
        Check.that("calls in the example: " + calls, calls > 30);
        Check.that("one example", !block.find());
    }

    private static long answer(WidowWeight x, String name, String told) throws ReflectiveOperationException {
        Object[] numbers = told.isEmpty() ? new Object[0]
            : Stream.of(told.split(", ")).map(ReadmeTests::number).toArray();
        for (Method m : WidowWeight.class.getDeclaredMethods()) {
            if (m.getName().equals(name) && m.getParameterCount() == numbers.length) {
                return invoked(m, x, numbers);
            }
        }
        throw new NoSuchMethodException(name + "(" + told + ")");
    }

    private static long invoked(Method m, WidowWeight x, Object[] numbers) throws ReflectiveOperationException {
        try {
            return ((Number) m.invoke(x, numbers)).longValue();
        } catch (InvocationTargetException e) {
            Check.that(m + " threw " + e.getCause(), false);
            return 0;
        }
    }

    private static Object number(String told) {
        return told.startsWith("'") ? (int) told.charAt(1) : Integer.parseInt(told);
    }

    private static void files(String readme) throws IOException {
        String ci = Files.readString(Path.of(".ci/run"));
        List<Path> sources;
        try (Stream<Path> all = Files.list(Path.of("src/test/java"))) {
            sources = all.sorted().collect(Collectors.toList());
        }
        for (Path source : sources) {
            String name = source.getFileName().toString();
            Check.that("README.md names " + name, readme.contains(name));
            if (Files.readString(source).contains("public static void main(")) {
                Check.that(".ci/run runs " + name, ci.contains("run_test src/test/java/" + name));
            }
        }
        Matcher named = Pattern.compile("`(?:[\\w./]*/)?(\\w+\\.java)`").matcher(readme);
        while (named.find()) {
            String name = named.group(1);
            Check.that("README.md names a file that is there: " + name, name.equals("WidowWeight.java")
                || sources.stream().anyMatch(s -> s.getFileName().toString().equals(name)));
        }
        Check.that(".ci/run can be executed", Files.isExecutable(Path.of(".ci/run")));
    }
}
