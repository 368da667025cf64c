import java.io.IOException;
import java.lang.reflect.Method;
import java.lang.reflect.Modifier;
import java.nio.file.Files;
import java.nio.file.Path;
import java.util.Arrays;
import java.util.List;
import java.util.Set;
import java.util.TreeSet;
import java.util.regex.Matcher;
import java.util.regex.Pattern;
import java.util.stream.Collectors;
import java.util.stream.Stream;

/** What README.md says of the class and of the tests is true. Run from the project's folder, as .ci/run does. */
public final class ReadmeTest {
    private static final Pattern EXAMPLE = Pattern.compile("solver\\.(\\w+)\\(([^)]*)\\); *// (-?\\d+|DlogSolver\\.\\w+).*");
    private static final Pattern CALL_ROW = Pattern.compile("\\| `(\\w+)\\(([^)]*)\\)` \\|.*");
    private static final Pattern CODE_ROW = Pattern.compile("- `DlogSolver\\.(\\w+)` \\((-?\\d+)\\).*");
    private static final Pattern TEST_ROW = Pattern.compile("- `(\\w+Test)`:.*");

    private static int wrong = 0;

    private static void same(String what, Object got, Object due) {
        if (!got.equals(due)) {
            wrong++;
            System.out.println(what + ": " + got + ", due is " + due);
        }
    }

    private static List<String> argumentsOf(String text) {
        return text.isBlank() ? List.of() : List.of(text.trim().split(" *, *"));
    }

    private static Method methodWith(String name, int parameters) throws NoSuchMethodException {
        Class<?>[] types = new Class<?>[parameters];
        Arrays.fill(types, int.class);
        return DlogSolver.class.getMethod(name, types);
    }

    private static int constant(String name) throws ReflectiveOperationException {
        return DlogSolver.class.getField(name).getInt(null);
    }

    private static int numberOrConstant(String text) throws ReflectiveOperationException {
        return text.startsWith("DlogSolver.") ? constant(text.substring("DlogSolver.".length())) : Integer.parseInt(text);
    }

    /** The lines of the example, in their order, on one new object. */
    private static void examples(List<String> lines) throws ReflectiveOperationException {
        DlogSolver solver = new DlogSolver();
        int run = 0;
        for (String line : lines) {
            Matcher example = EXAMPLE.matcher(line);
            if (example.matches()) {
                List<String> arguments = argumentsOf(example.group(2));
                Object[] numbers = arguments.stream().map(Integer::valueOf).toArray();
                Object got = methodWith(example.group(1), numbers.length).invoke(solver, numbers);
                same("example " + line, got, numberOrConstant(example.group(3)));
                run++;
            }
        }
        long written = lines.stream().filter(line -> line.startsWith("solver.")).count();
        same("examples that could be read", (long) run, written);
        same("there are examples", run > 0, true);
    }

    private static void calls(List<String> lines) {
        Set<String> told = new TreeSet<>();
        for (String line : lines) {
            Matcher row = CALL_ROW.matcher(line);
            if (row.matches()) {
                told.add(row.group(1) + " with " + argumentsOf(row.group(2)).size());
            }
        }
        Set<String> there = new TreeSet<>();
        for (Method method : DlogSolver.class.getDeclaredMethods()) {
            if (Modifier.isPublic(method.getModifiers())) {
                there.add(method.getName() + " with " + method.getParameterCount());
            }
        }
        same("calls told", told, there);
    }

    private static void codes(List<String> lines) throws ReflectiveOperationException {
        Set<String> told = new TreeSet<>();
        for (String line : lines) {
            Matcher row = CODE_ROW.matcher(line);
            if (row.matches()) {
                told.add(row.group(1));
                same("code " + row.group(1), Integer.valueOf(row.group(2)), constant(row.group(1)));
            }
        }
        same("codes told", told, new TreeSet<>(Set.of("BAD_ARG", "NONE")));
    }

    private static void tests(List<String> lines) throws IOException {
        Set<String> told = new TreeSet<>();
        for (String line : lines) {
            Matcher row = TEST_ROW.matcher(line);
            if (row.matches()) {
                told.add(row.group(1) + ".java");
            }
        }
        try (Stream<Path> files = Files.list(Path.of("src/test/java"))) {
            Set<String> there = files.map(file -> file.getFileName().toString()).collect(Collectors.toCollection(TreeSet::new));
            same("tests told", told, there);
        }
    }

    public static void main(String[] args) throws IOException, ReflectiveOperationException {
        List<String> lines = Files.readAllLines(Path.of("README.md"));
        examples(lines);
        calls(lines);
        codes(lines);
        tests(lines);
        System.out.println(wrong == 0 ? "README.md is as due" : wrong + " parts of README.md are not as due");
        if (wrong != 0) {
            System.exit(1);
        }
    }
}
