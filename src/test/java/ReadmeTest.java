import java.io.IOException;
import java.lang.reflect.InvocationTargetException;
import java.lang.reflect.Method;
import java.lang.reflect.Modifier;
import java.nio.file.Files;
import java.nio.file.Path;
import java.util.Arrays;
import java.util.List;
import java.util.Map;
import java.util.Set;
import java.util.TreeSet;
import java.util.regex.Matcher;
import java.util.regex.Pattern;

/** Makes the calls that README.md shows and compares each answer with the one shown; looks through its tables. */
public final class ReadmeTest {
    private static final Map<String, Integer> CODES = Map.of("BAD_ARG", -1, "FULL", -2, "NONE", -4, "CUT", -9);
    private static final String NEW = "FlashVolumes x = new FlashVolumes();";
    private static final Pattern CALL = Pattern.compile("x\\.(\\w+)\\(([^()]*)\\);(?:\\s*// ([^:]*)(?:: .*)?)?");
    private static final Pattern CALL_ROW = Pattern.compile("\\| `(\\w+)\\(([^()]*)\\)` \\|.*");
    private static final Pattern CODE_ROW = Pattern.compile("\\| `([A-Z_]+)` \\| (-?\\d+) \\|.*");
    private final Set<String> shown = new TreeSet<>();
    private FlashVolumes x;
    private int made;

    private ReadmeTest() {
    }

    public static void main(String[] args) throws IOException {
        List<String> lines = Files.readAllLines(Path.of("README.md"));
        new ReadmeTest().examples(lines);
        callTable(lines);
        codeTable(lines);
        Check.holds("README.md tells of the 512 calls", String.join(" ", lines).contains("at most 512 calls"));
        Check.holds("README.md tells how to run the tests", lines.contains("    .ci/run"));
        testTable(lines);
        Check.end("ReadmeTest");
    }

    private void examples(List<String> lines) {
        boolean inside = false;
        for (String line : lines) {
            if (line.startsWith("```")) {
                inside = line.equals("```java");
                x = null;
            } else if (inside) {
                example(line.strip());
            }
        }
        for (String name : names()) {
            Check.holds("an example of the call " + name, shown.contains(name));
        }
        for (String code : CODES.keySet()) {
            Check.holds("an example of the code " + code, shown.contains(code));
        }
    }

    private void example(String line) {
        if (line.equals(NEW)) {
            x = new FlashVolumes();
            made = 0;
            return;
        }
        Matcher call = CALL.matcher(line);
        if (x == null || !call.matches()) {
            Check.holds("an example is a new object or a call of it with its answer: " + line, false);
            return;
        }
        made++;
        Check.holds("at most 512 calls", made <= 512);
        compare(line, call.group(1), numbers(call.group(2)), call.group(3));
    }

    private void compare(String line, String name, Object[] numbers, String told) {
        Class<?>[] types = new Class<?>[numbers.length];
        Arrays.fill(types, int.class);
        shown.add(name);
        try {
            Method method = FlashVolumes.class.getMethod(name, types);
            Object answer = method.invoke(x, numbers);
            if (answer == null) {
                Check.holds("a call without an answer shows none: " + line, told == null);
            } else if (told == null) {
                Check.holds("a call with an answer shows it: " + line, false);
            } else {
                Check.due("README.md: " + line, (Integer) answer, number(told));
            }
        } catch (NoSuchMethodException | IllegalAccessException | InvocationTargetException wrong) {
            Check.holds(line + ": " + wrong, false);
        }
    }

    private long number(String told) {
        if (CODES.containsKey(told)) {
            shown.add(told);
            return CODES.get(told);
        }
        Check.holds("an answer is a number or a code: " + told, told.matches("-?\\d{1,10}"));
        return told.matches("-?\\d{1,10}") ? Long.parseLong(told) : Long.MIN_VALUE;
    }

    private static Object[] numbers(String list) {
        if (list.isEmpty()) {
            return new Object[0];
        }
        String[] each = list.split(", ");
        Object[] all = new Object[each.length];
        for (int n = 0; n < each.length; n++) {
            all[n] = Integer.valueOf(each[n]);
        }
        return all;
    }

    private static Set<String> names() {
        Set<String> names = new TreeSet<>();
        for (Method method : FlashVolumes.class.getDeclaredMethods()) {
            if (Modifier.isPublic(method.getModifiers())) {
                names.add(method.getName());
            }
        }
        return names;
    }

    private static void callTable(List<String> lines) {
        Set<String> rows = new TreeSet<>();
        for (String line : lines) {
            Matcher row = CALL_ROW.matcher(line);
            if (row.matches()) {
                Check.holds("one row for the call " + row.group(1), rows.add(row.group(1)));
                Check.holds("four columns: " + line, line.split(" \\| ").length == 4);
            }
        }
        Check.holds("the table of calls has them all: " + rows, rows.equals(names()));
    }

    private static void codeTable(List<String> lines) {
        Set<String> rows = new TreeSet<>();
        for (String line : lines) {
            Matcher row = CODE_ROW.matcher(line);
            if (row.matches()) {
                rows.add(row.group(1));
                Check.due("README.md: the code " + row.group(1), Long.parseLong(row.group(2)), CODES.getOrDefault(row.group(1), 0));
            }
        }
        Check.holds("the table of codes has them all: " + rows, rows.equals(CODES.keySet()));
    }

    private static void testTable(List<String> lines) throws IOException {
        try (var files = Files.list(Path.of("src/test/java"))) {
            for (Path file : files.filter(path -> path.toString().endsWith("Test.java")).toList()) {
                String name = file.getFileName().toString().replace(".java", "");
                Check.holds("the table of tests has " + name,
                    lines.stream().anyMatch(line -> line.startsWith("| `" + name + "` |")));
            }
        }
    }
}
