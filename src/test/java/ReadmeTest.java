import java.io.IOException;
import java.nio.file.Files;
import java.nio.file.Path;
import java.util.ArrayList;
import java.util.Arrays;
import java.util.List;
import java.util.Set;
import java.util.TreeSet;
import java.util.regex.Matcher;
import java.util.regex.Pattern;
import java.util.stream.Collectors;
import java.util.stream.Stream;

/** What README.md says is so: each answer of its example, its list of calls, codes and tests. */
public final class ReadmeTest {
    private static final Pattern EXAMPLE_CALL = Pattern.compile("x\\.(\\w+)\\((.*)\\); +// ([^:]+)(: .+)?");
    private static final Pattern ROW = Pattern.compile("\\| `(\\w+)\\((.*)\\)` \\| (\\d+) \\| .+ \\|");
    private static final Pattern CODE = Pattern.compile("- `(\\w+)` \\((-\\d)\\): .+");
    private static final Pattern NAME_OF_TEST = Pattern.compile("`([A-Z]\\w+)`");
    private static final List<String> BY_PROMISE = List.of("WordSolver/0", "simple/1", "then/0", "or/0",
        "many/0", "place/1", "size/1", "words/2", "same/2", "endless/1", "rests/1", "sign/1", "demand/2",
        "bound/4", "drop/1", "solutions/0", "length/1", "letter/2", "lengths/1", "different/1",
        "ofLength/1");

    public static void main(String[] args) throws Exception {
        List<String> lines = Files.readAllLines(Path.of("README.md"));
        example(lines);
        calls(lines);
        codes(lines);
        tests(lines);
        Due.end();
    }

    private static void example(List<String> lines) throws Exception {
        List<String> code = lines.subList(lines.indexOf("```java") + 1, lines.lastIndexOf("```"));
        Due.alike("how the example begins", code.get(0), "WordSolver x = new WordSolver();");
        WordSolver x = new WordSolver();
        Set<String> called = new TreeSet<>();
        for (String line : code.subList(1, code.size())) {
            Matcher call = EXAMPLE_CALL.matcher(line);
            if (call.matches()) {
                Object answer = answer(x, call.group(1), call.group(2));
                Due.alike("README.md: " + line, answer.toString(), call.group(3));
                called.add(withCount(call));
            } else {
                Due.alike("a line of the example that is no call", line, "");
            }
        }
        called.add(BY_PROMISE.get(0));
        Due.alike("the calls in the example", called, new TreeSet<>(BY_PROMISE));
    }

    private static Object answer(WordSolver x, String name, String given) throws Exception {
        Object[] numbers = split(given).map(Integer::valueOf).toArray();
        Class<?>[] types = new Class<?>[numbers.length];
        Arrays.fill(types, int.class);
        return WordSolver.class.getMethod(name, types).invoke(x, numbers);
    }

    private static Stream<String> split(String given) {
        return Stream.of(given.split(", ")).filter(n -> !n.isEmpty());
    }

    /** The name of a call and how many arguments it has. */
    private static String withCount(Matcher call) {
        return call.group(1) + "/" + split(call.group(2)).count();
    }

    /** Each call has a row, with its promise and as many arguments as it takes. */
    private static void calls(List<String> lines) {
        List<String> found = new ArrayList<>();
        for (String line : lines) {
            Matcher row = ROW.matcher(line);
            if (row.matches()) {
                found.add(withCount(row));
                Due.eq("the promise of " + row.group(1), Integer.parseInt(row.group(3)), found.size());
            }
        }
        Due.alike("the calls in README.md", found, BY_PROMISE);
    }

    private static void codes(List<String> lines) throws Exception {
        int found = 0;
        for (String line : lines) {
            Matcher code = CODE.matcher(line);
            if (code.matches()) {
                found++;
                Object value = WordSolver.class.getField(code.group(1)).get(null);
                Due.alike("README.md: " + code.group(1), value.toString(), code.group(2));
            }
        }
        Due.eq("the codes in README.md", found, 4);
    }

    /** The files in src/test/java are those that are told of, and no others. */
    private static void tests(List<String> lines) throws IOException {
        String section = String.join("\n", lines.subList(lines.indexOf("## Tests"), lines.size()));
        Set<String> told = new TreeSet<>();
        Matcher name = NAME_OF_TEST.matcher(section);
        while (name.find()) {
            told.add(name.group(1) + ".java");
        }
        try (Stream<Path> files = Files.list(Path.of("src/test/java"))) {
            Set<String> there = files.map(f -> f.getFileName().toString()).collect(Collectors.toCollection(TreeSet::new));
            Due.alike("the tests in README.md", told, there);
        }
        Due.is("what runs the tests can be run", Files.isExecutable(Path.of(".ci/run")), true);
    }
}
