import java.lang.reflect.Method;
import java.nio.charset.StandardCharsets;
import java.nio.file.Files;
import java.nio.file.Path;
import java.util.ArrayList;
import java.util.List;
import java.util.Map;
import java.util.TreeMap;
import java.util.TreeSet;
import java.util.regex.Matcher;
import java.util.regex.Pattern;
import java.util.stream.Stream;

/** README.md tells the truth: its example, the face and the ERRORS as the document has them, the tests that there are. */
public final class ReadmeTest {
    private static final Pattern EXAMPLE = Pattern.compile("(?m)^town\\.(\\w+)\\((.*)\\); *// (-?\\d+): ");
    private static final Pattern ROW = Pattern.compile("(?m)^\\| `(\\w+)\\((.*)\\)` \\|.*\\|.*\\| ?(.*) \\|$");
    private static final Pattern ROW_OF_ERROR = Pattern.compile("(?m)^\\| (\\d) \\| ([A-Z]+) \\| (-\\d+) \\|");
    private static final Pattern FACE = Pattern.compile("public (?:int|long) (\\w+)\\((.*)\\);");
    private static final Pattern PROMISE = Pattern.compile("(?s)## Promise \\d+: (\\w+)\n(.*?)(?=\n## )");
    /** KIND is a word of the Terms, too; an ERROR begins a sentence, follows another one or a word of their order. */
    private static final Pattern ERROR = Pattern.compile("(?<=[.,;] |ahead of )(BEYOND|NONE|STATE|FULL|PARTED|KIND(?=:))");
    private static final Pattern TEST = Pattern.compile("`(\\w+Test)`");

    public static void main(String[] args) throws Exception {
        String page = Files.readString(Path.of("README.md"), StandardCharsets.UTF_8);
        String document = Files.readString(Path.of("../shared/DOC.md"), StandardCharsets.UTF_8);
        exampleAnswers(page);
        numbersOfErrors(page);
        callsAndErrors(page, document);
        testsAreNamed(page);
        Due.end();
    }

    private static void exampleAnswers(String page) throws Exception {
        FathersPay town = new FathersPay();
        int calls = 0;
        Matcher line = EXAMPLE.matcher(page);
        while (line.find()) {
            Due.due(line.group(), answer(town, line.group(1), line.group(2)), Long.parseLong(line.group(3)));
            calls++;
        }
        Due.due("calls of the example", calls, page.split("\ntown\\.", -1).length - 1);
        Due.holds("there is an example", calls > 0);
    }

    private static long answer(FathersPay town, String name, String given) throws Exception {
        String[] words = given.isEmpty() ? new String[0] : given.split(", ");
        for (Method m : FathersPay.class.getMethods()) {
            if (m.getName().equals(name) && m.getParameterCount() == words.length) {
                Object[] all = new Object[words.length];
                for (int i = 0; i < all.length; i++) {
                    if (m.getParameterTypes()[i] == long.class) {
                        all[i] = Long.decode(words[i].replace("L", ""));
                    } else {
                        all[i] = Integer.decode(words[i]);
                    }
                }
                return ((Number) m.invoke(town, all)).longValue();
            }
        }
        Due.holds("there is a call " + name + " of so many numbers", false);
        return 0;
    }

    private static void numbersOfErrors(String page) {
        Map<String, Integer> due = Map.of("BEYOND", Due.BEYOND, "NONE", Due.NONE, "STATE", Due.STATE, "FULL", Due.FULL,
            "KIND", Due.KIND, "PARTED", Due.PARTED);
        int rows = 0;
        Matcher row = ROW_OF_ERROR.matcher(page);
        while (row.find()) {
            Due.due(row.group(2), Integer.parseInt(row.group(3)), due.get(row.group(2)));
            Due.due("k of " + row.group(2), Integer.parseInt(row.group(1)), Due.LOW - due.get(row.group(2)));
            rows++;
        }
        Due.due("rows of ERRORS", rows, due.size());
    }

    private static void callsAndErrors(String page, String document) {
        Map<String, String> due = new TreeMap<>();
        Matcher face = FACE.matcher(document);
        while (face.find()) {
            due.put(face.group(1), face.group(2).replaceAll("(int|long) ", "") + " ..");
        }
        Matcher promise = PROMISE.matcher(document);
        while (promise.find()) {
            due.computeIfPresent(promise.group(1), (name, given) -> given + errors(promise.group(2)));
        }
        Map<String, String> got = new TreeMap<>();
        Matcher row = ROW.matcher(page);
        while (row.find()) {
            List<String> told = row.group(3).isEmpty() ? List.of() : List.of(row.group(3).split(", "));
            String twice = got.put(row.group(1), row.group(2) + " .." + told);
            Due.holds(row.group(1) + " has one row", twice == null);
        }
        Due.holds("the document has a face", !due.isEmpty());
        for (Map.Entry<String, String> call : due.entrySet()) {
            String told = got.get(call.getKey());
            Due.holds(call.getKey() + " is told as " + told + ", due is " + call.getValue(), call.getValue().equals(told));
        }
        Due.holds("no other calls are told: " + got.keySet(), due.keySet().containsAll(got.keySet()));
    }

    private static List<String> errors(String ofPromise) {
        List<String> all = new ArrayList<>();
        Matcher error = ERROR.matcher(ofPromise);
        while (error.find()) {
            all.add(error.group(1));
        }
        return all;
    }

    private static void testsAreNamed(String page) throws Exception {
        TreeSet<String> named = new TreeSet<>();
        Matcher test = TEST.matcher(page.substring(page.indexOf("\n## Tests")));
        while (test.find()) {
            named.add(test.group(1));
        }
        named.remove("SomethingTest");
        TreeSet<String> there = new TreeSet<>();
        try (Stream<Path> files = Files.list(Path.of("src/test/java"))) {
            files.map(file -> file.getFileName().toString()).filter(name -> name.endsWith("Test.java"))
                .forEach(name -> there.add(name.replace(".java", "")));
        }
        Due.holds("README names the tests " + named + ", there are " + there, named.equals(there));
    }
}
