import java.io.IOException;
import java.lang.reflect.Method;
import java.nio.file.Files;
import java.nio.file.Path;
import java.util.ArrayList;
import java.util.LinkedHashMap;
import java.util.List;
import java.util.Map;
import java.util.TreeSet;
import java.util.regex.Matcher;
import java.util.regex.Pattern;
import java.util.stream.Stream;

/**
 * That README.md is so: each call of its examples answers what stands behind it, its table of refusals has
 * the document's order, and it names the tests that there are.
 */
public final class ReadmeTest {
    private static final Pattern CALL = Pattern.compile("x\\.(\\w+)\\(([^)]*)\\);\\s*// (-?\\d+|[A-Z]+)(:.*)?");
    private static final Pattern SPELT = Pattern.compile("spell\\(x, \"([^\"]*)\"\\);");
    private static final Pattern BLOCK = Pattern.compile("(?ms)^```java\n(.*?)^```$");
    private static final Pattern REFUSAL = Pattern.compile("\\b(UNKNOWN|OUTSIDE|STATE|FULL)\\b");
    private static final Pattern REFUSALS_ROW = Pattern.compile("(?m)^\\| `(\\w+)` \\| ([A-Z, ]+|none) \\|$");
    private static final Pattern NUMBER_ROW = Pattern.compile("(?m)^\\| `([A-Z]+)` \\| (-\\d+) \\|");
    private static final Pattern PROMISE = Pattern.compile("(?ms)^## Promise \\d+: (\\w+)$(.*?)(?=^## )");
    private static final Pattern TEST_FILE = Pattern.compile("src/test/java/(\\w+\\.java)");
    private static final String HELPER = """
        static void spell(LastBench x, String text) {
            for (int i = 0; i < text.length(); i++) {
                x.letter(text.charAt(i));
            }
        }
        """;

    private static int failures = 0;
    private static int calls = 0;

    public static void main(String[] args) throws Exception {
        Path program = Path.of(System.getProperty("program", "src/main/java/LastBench.java")).toAbsolutePath();
        Path root = program.getParent().getParent().getParent().getParent();
        Path shared = Path.of(System.getProperty("shared", root.resolve("../shared").toString()));
        String readme = Files.readString(root.resolve("README.md"));
        examples(readme);
        refusals(readme, Files.readString(shared.resolve("DOC.md")));
        numbers(readme);
        tests(readme, root.resolve("src/test/java"));
        texts(readme);
        System.out.println(failures == 0 ? "the page is so" : failures + " things on the page are not so");
        if (failures != 0) {
            System.exit(1);
        }
    }

    private static void so(boolean holds, String what) {
        if (!holds) {
            failures++;
            System.out.println("not so: " + what);
        }
    }

    private static void spell(LastBench x, String text) {
        for (int i = 0; i < text.length(); i++) {
            x.letter(text.charAt(i));
        }
    }

    private static void examples(String readme) throws Exception {
        Matcher block = BLOCK.matcher(readme);
        int blocks = 0;
        so(readme.contains("```java\n" + HELPER + "```\n"), "the page spells as this test does");
        while (block.find()) {
            if (!block.group(1).equals(HELPER)) {
                blocks++;
                example(block.group(1));
            }
        }
        so(blocks == 3 && calls > 50, "three examples with their calls: " + blocks + ", " + calls);
    }

    /** A line that is none of the three kinds is a fault: nothing on the page goes unlooked at. */
    private static void example(String lines) throws Exception {
        LastBench x = null;
        for (String line : lines.split("\n")) {
            Matcher call = CALL.matcher(line);
            Matcher spelt = SPELT.matcher(line);
            if (line.equals("LastBench x = new LastBench();")) {
                x = new LastBench();
            } else if (spelt.matches()) {
                spell(x, spelt.group(1));
            } else if (call.matches()) {
                calls++;
                long got = answer(x, call.group(1), call.group(2));
                so(got == number(call.group(3)), line + " answered " + got);
            } else {
                so(false, "a line that cannot be run: " + line);
            }
        }
    }

    private static long number(String told) throws Exception {
        return told.matches("-?\\d+") ? Long.parseLong(told) : LastBench.class.getField(told).getInt(null);
    }

    private static long answer(LastBench x, String name, String told) throws Exception {
        List<Object> values = new ArrayList<>();
        for (String one : told.isEmpty() ? new String[0] : told.split(", ")) {
            values.add(value(one));
        }
        for (Method method : LastBench.class.getMethods()) {
            if (method.getName().equals(name) && method.getDeclaringClass() == LastBench.class) {
                return ((Number) method.invoke(x, values.toArray())).longValue();
            }
        }
        throw new IllegalStateException("no call " + name);
    }

    private static Object value(String told) {
        if (told.equals("true") || told.equals("false")) {
            return Boolean.valueOf(told);
        }
        return told.startsWith("'") ? Integer.valueOf(told.charAt(1)) : Integer.valueOf(told);
    }

    private static void refusals(String readme, String document) {
        Map<String, List<String>> due = new LinkedHashMap<>();
        Matcher promise = PROMISE.matcher(document);
        while (promise.find()) {
            List<String> order = new ArrayList<>();
            Matcher refusal = REFUSAL.matcher(promise.group(2));
            while (refusal.find()) {
                order.add(refusal.group(1));
            }
            due.put(promise.group(1), order);
        }
        Map<String, List<String>> told = new LinkedHashMap<>();
        Matcher row = REFUSALS_ROW.matcher(readme);
        while (row.find()) {
            told.put(row.group(1), row.group(2).equals("none") ? List.of() : List.of(row.group(2).split(", ")));
        }
        so(due.size() == 24, "24 calls are promised: " + due.keySet());
        so(told.equals(due), "the refusals are " + due + ", not " + told);
    }

    private static void numbers(String readme) throws Exception {
        Matcher row = NUMBER_ROW.matcher(readme);
        int rows = 0;
        while (row.find()) {
            rows++;
            so(number(row.group(1)) == Long.parseLong(row.group(2)), row.group());
        }
        so(rows == 4, "four refusals have their number: " + rows);
        so(readme.contains("`NONE` (" + LastBench.NONE + ")"), "NONE has its number");
    }

    private static void tests(String readme, Path folder) throws IOException {
        TreeSet<String> told = new TreeSet<>();
        Matcher file = TEST_FILE.matcher(readme);
        while (file.find()) {
            told.add(file.group(1));
        }
        TreeSet<String> there = new TreeSet<>();
        try (Stream<Path> all = Files.list(folder)) {
            all.forEach(path -> there.add(path.getFileName().toString()));
        }
        so(told.equals(there), "the tests are " + there + ", not " + told);
    }

    /** What is said of texts as such: the kinds' letters, the shortest, the longest, what the page holds. */
    private static void texts(String readme) {
        String[] kinds = {"person", "good", "holder", "baby", "saint"};
        for (int kind = 0; kind < kinds.length; kind++) {
            String letter = kinds[kind].substring(0, 1);
            so(readme.contains("| " + kind + " " + kinds[kind] + " | `" + letter + "` |"), "a row for " + kinds[kind]);
            LastBench x = new LastBench();
            spell(x, "1;" + letter + "0,p0;011");
            so(x.chapel() == 2 && x.person(0, 0) == kind, letter + " is the kind " + kind);
        }
        so(readme.contains("The shortest text has 11 letters, the longest 51."), "shortest and longest are told");
        isWholeAt("1;p0,p0;011", 11);
        isWholeAt("6;p0,p0,p0,p0,p0,p0;011,011,011,011,011,011,011,011", 51);
        LastBench x = new LastBench();
        int most = 0;
        for (int n = 0; n < 60; n++) {
            most = Math.max(most, x.letter('1'));
        }
        so(readme.contains("it has " + most + " at most"), "the page has " + most + " letters at most");
    }

    private static void isWholeAt(String text, int length) {
        LastBench x = new LastBench();
        spell(x, text);
        so(text.length() == length && x.chapel() > 0, text + " is whole with " + length);
    }
}
