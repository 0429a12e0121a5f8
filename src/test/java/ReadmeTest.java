import java.io.IOException;
import java.lang.reflect.Method;
import java.lang.reflect.Modifier;
import java.nio.charset.StandardCharsets;
import java.nio.file.Files;
import java.nio.file.Path;
import java.util.ArrayList;
import java.util.List;
import java.util.Set;
import java.util.TreeSet;
import java.util.regex.Matcher;
import java.util.regex.Pattern;
import java.util.stream.Stream;

/** README.md: what its example and its texts answer, and that every call, every refusal and every test stands in it. */
public final class ReadmeTest {
    private static final Due DUE = new Due("ReadmeTest");
    private static final Pattern EXAMPLE = Pattern.compile(" {4}x\\.(\\w+)\\(([^)]*)\\); +// (-?\\w+) .*");
    private static final Pattern TEXT = Pattern.compile("\\| `([^`]*)` \\| (-?\\d+) \\| .*");
    private static final Pattern CALL = Pattern.compile("\\| `(\\w+)\\(([^)]*)\\)` \\| .* \\|(.*)\\|");
    private static final Pattern REFUSAL = Pattern.compile("\\| `([A-Z]+)` \\| (-\\d) \\| .*");

    public static void main(String[] args) throws Exception {
        List<String> lines = Files.readAllLines(Path.of("README.md"), StandardCharsets.UTF_8);
        example(lines);
        texts(lines);
        calls(lines);
        refusals(lines);
        tests(String.join("\n", lines));
        DUE.end();
    }

    private static void example(List<String> lines) throws Exception {
        ArcOrder x = new ArcOrder();
        int found = 0;
        for (String line : lines) {
            Matcher matcher = EXAMPLE.matcher(line);
            if (matcher.matches()) {
                found++;
                long due = matcher.group(3).matches("-?\\d+") ? Long.parseLong(matcher.group(3)) : named(matcher.group(3));
                DUE.is(line.trim(), answer(x, matcher.group(1), matcher.group(2)), due);
            }
        }
        DUE.is("the example is found", found >= 20 ? 1 : 0, 1);
    }

    private static long named(String constant) throws Exception {
        return ArcOrder.class.getField(constant).getInt(null);
    }

    private static long answer(ArcOrder x, String name, String numbers) throws Exception {
        String[] parts = numbers.isEmpty() ? new String[0] : numbers.split(", ");
        for (Method method : face()) {
            if (method.getName().equals(name) && method.getParameterCount() == parts.length) {
                Object[] with = new Object[parts.length];
                for (int i = 0; i < with.length; i++) {
                    boolean isLong = method.getParameterTypes()[i] == long.class;
                    with[i] = isLong ? (Object) Long.valueOf(parts[i]) : (Object) Integer.valueOf(parts[i]);
                }
                return ((Number) method.invoke(x, with)).longValue();
            }
        }
        throw new IllegalStateException("no such call: " + name + "(" + numbers + ")");
    }

    private static List<Method> face() {
        List<Method> found = new ArrayList<>();
        for (Method method : ArcOrder.class.getDeclaredMethods()) {
            if (Modifier.isPublic(method.getModifiers())) {
                found.add(method);
            }
        }
        return found;
    }

    private static void texts(List<String> lines) {
        int found = 0;
        for (String line : lines) {
            Matcher matcher = TEXT.matcher(line);
            if (matcher.matches() && !REFUSAL.matcher(line).matches()) {
                found++;
                DUE.is(line, Due.stored(new ArcOrder(), matcher.group(1)), Long.parseLong(matcher.group(2)));
            }
        }
        DUE.is("the texts are found", found, 12);
        DUE.is("an empty text", Due.stored(Due.of("n7;a0 1;"), ""), 0);
    }

    /** Every call has one row, with as many numbers as it takes. */
    private static void calls(List<String> lines) {
        List<String> told = new ArrayList<>();
        for (String line : lines) {
            Matcher matcher = CALL.matcher(line);
            if (matcher.matches()) {
                int numbers = matcher.group(2).isEmpty() ? 0 : matcher.group(2).split(", ").length;
                told.add(matcher.group(1) + " " + numbers);
            }
        }
        Set<String> due = new TreeSet<>();
        for (Method method : face()) {
            due.add(method.getName() + " " + method.getParameterCount());
        }
        DUE.is("rows of calls", told.size(), due.size());
        DUE.is("calls", new TreeSet<>(told).toString(), due.toString());
    }

    private static void refusals(List<String> lines) throws Exception {
        StringBuilder found = new StringBuilder();
        for (String line : lines) {
            Matcher matcher = REFUSAL.matcher(line);
            if (matcher.matches()) {
                found.append(matcher.group(1)).append(' ');
                DUE.is(line, Long.parseLong(matcher.group(2)), named(matcher.group(1)));
            }
        }
        DUE.is("refusals, the first first", found.toString(), "BAD STATE FULL RING ");
    }

    private static void tests(String readme) throws IOException {
        try (Stream<Path> files = Files.list(Path.of("src/test/java"))) {
            for (Path file : (Iterable<Path>) files.sorted()::iterator) {
                String name = file.getFileName().toString().replace(".java", "");
                if (name.endsWith("Test")) {
                    DUE.is(name + " stands in README.md", readme.contains("`" + name + "`") ? 1 : 0, 1);
                }
            }
        }
        DUE.is("how tests are run", readme.contains("    .ci/run\n") ? 1 : 0, 1);
    }
}
