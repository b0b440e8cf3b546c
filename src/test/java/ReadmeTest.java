import java.lang.reflect.Field;
import java.lang.reflect.Method;
import java.lang.reflect.Modifier;
import java.nio.file.Files;
import java.nio.file.Path;
import java.util.Map;
import java.util.Set;
import java.util.TreeMap;
import java.util.TreeSet;
import java.util.regex.Matcher;
import java.util.regex.Pattern;
import java.util.stream.Stream;

/** README.md tells what holds: the answers of its runs of calls, the codes, and the tests. */
public final class ReadmeTest {
    private static final Check C = new Check("ReadmeTest");
    private static final Pattern CALL = Pattern.compile("x\\.(\\w+)\\(([^)]*)\\); +// (-?[\\d.]+)(:.*)?");
    private static final Pattern CODE = Pattern.compile("\\| `([A-Z_]+)` \\| (-?\\d+) \\|.*");
    private static final Pattern TEST = Pattern.compile("\\| `(\\w+Test)` \\|.*");

    public static void main(String[] args) throws Exception {
        Path root = Path.of(args.length > 0 ? args[0] : ".");
        String[] lines = Files.readString(root.resolve("README.md")).split("\n");
        runs(lines);
        codes(lines);
        tests(lines, root);
        C.finish();
    }

    private static void runs(String[] lines) throws Exception {
        C.part("runs of calls");
        TimeGaps x = null;
        boolean inside = false;
        int calls = 0;
        for (String line : lines) {
            if (line.startsWith("```")) {
                inside = line.equals("```java");
            } else if (inside && line.equals("TimeGaps x = new TimeGaps();")) {
                x = new TimeGaps();
            } else if (inside) {
                call(x, line);
                calls++;
            }
        }
        C.is("there are calls", calls > 20 ? 1 : 0, 1);
    }

    private static void call(TimeGaps x, String line) throws Exception {
        Matcher call = CALL.matcher(line);
        boolean plain = call.matches();
        C.is("a call with its answer: " + line, plain ? 1 : 0, 1);
        if (plain) {
            Object got = methodOf(call.group(1)).invoke(x, numbers(call.group(2)));
            C.isText(line, got.toString(), call.group(3));
        }
    }

    private static Method methodOf(String name) {
        return Stream.of(TimeGaps.class.getMethods()).filter(m -> m.getName().equals(name)).findFirst().orElseThrow();
    }

    private static Object[] numbers(String arguments) {
        return Stream.of(arguments.split(", *")).filter(a -> !a.isEmpty()).map(Integer::decode).toArray();
    }

    private static void codes(String[] lines) throws Exception {
        C.part("codes");
        Map<String, Integer> told = new TreeMap<>();
        for (String line : lines) {
            Matcher code = CODE.matcher(line);
            if (code.matches()) {
                told.put(code.group(1), Integer.valueOf(code.group(2)));
            }
        }
        Map<String, Integer> due = new TreeMap<>();
        for (Field field : TimeGaps.class.getFields()) {
            if (Modifier.isStatic(field.getModifiers())) {
                due.put(field.getName(), field.getInt(null));
            }
        }
        C.isText("codes", told.toString(), due.toString());
    }

    private static void tests(String[] lines, Path root) throws Exception {
        C.part("list of tests");
        Set<String> told = new TreeSet<>();
        for (String line : lines) {
            Matcher test = TEST.matcher(line);
            if (test.matches()) {
                told.add(test.group(1));
            }
        }
        Set<String> due = new TreeSet<>();
        try (Stream<Path> files = Files.list(root.resolve("src/test/java"))) {
            files.map(file -> file.getFileName().toString()).filter(name -> name.endsWith("Test.java"))
                    .forEach(name -> due.add(name.replace(".java", "")));
        }
        C.isText("tests", told.toString(), due.toString());
    }
}
