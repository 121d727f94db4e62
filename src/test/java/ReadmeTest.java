import java.io.IOException;
import java.lang.reflect.Field;
import java.lang.reflect.Method;
import java.lang.reflect.Modifier;
import java.nio.file.Files;
import java.nio.file.Path;
import java.util.List;
import java.util.Set;
import java.util.TreeSet;
import java.util.regex.Matcher;
import java.util.regex.Pattern;
import java.util.stream.Stream;

/** What README.md says of calls and tests is so. */
public final class ReadmeTest {
    private static final Pattern CALL =
            Pattern.compile(" {4}x\\.(\\w+)\\(([^)]*)\\); *// (-?\\d+|[A-Z]+)(?:[:;, ].*)?");
    private static final Due due = new Due();

    public static void main(String[] args) throws IOException, ReflectiveOperationException {
        List<String> lines = Files.readAllLines(Path.of("README.md"));
        due.is("calls of the face that are not told", untold(askAll(lines)).size(), 0);
        tests(lines);
        due.close();
    }

    /** Asks every call that is told, in one run: their names. */
    private static Set<String> askAll(List<String> lines) throws ReflectiveOperationException {
        Set<String> names = new TreeSet<>();
        LandLines x = new LandLines();
        for (String line : lines) {
            if (!line.startsWith("    x.")) {
                continue;
            }
            Matcher m = CALL.matcher(line);
            due.is("it is told what is answered by " + line, m.matches() ? 1 : 0, 1);
            if (m.matches()) {
                Call call = new Call(m.group(1), numbers(m.group(2)));
                due.is(line.strip(), call.on(x), answer(m.group(3)));
                names.add(call.name());
            }
        }
        return names;
    }

    private static long[] numbers(String text) {
        return Stream.of(text.split(", *")).filter(s -> !s.isEmpty())
                .mapToLong(s -> Long.decode(s.replace("L", ""))).toArray();
    }

    private static int answer(String text) throws ReflectiveOperationException {
        if (!Character.isUpperCase(text.charAt(0))) {
            return Integer.parseInt(text);
        }
        Field constant = LandLines.class.getField(text);
        return constant.getInt(null);
    }

    private static Set<String> untold(Set<String> told) {
        Set<String> face = new TreeSet<>();
        for (Method m : LandLines.class.getDeclaredMethods()) {
            if (Modifier.isPublic(m.getModifiers())) {
                face.add(m.getName());
            }
        }
        face.removeAll(told);
        return face;
    }

    /** Every test has a row in the table, and every row a test. */
    private static void tests(List<String> lines) throws IOException {
        Set<String> there = new TreeSet<>();
        try (Stream<Path> files = Files.list(Path.of("src/test/java"))) {
            files.map(f -> f.getFileName().toString()).filter(f -> f.endsWith("Test.java"))
                    .map(f -> f.replace(".java", "")).forEach(there::add);
        }
        Set<String> left = new TreeSet<>(there);
        for (String line : lines) {
            if (line.startsWith("| ") && line.contains("Test |")) {
                String row = line.split("\\|")[1].strip().replace("*", ".*");
                due.is("there is a test for the row " + row, there.stream().anyMatch(t -> t.matches(row)) ? 1 : 0, 1);
                left.removeIf(t -> t.matches(row));
            }
        }
        due.is("tests without a row: " + left, left.size(), 0);
    }
}
