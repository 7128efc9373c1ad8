import java.io.IOException;
import java.net.URL;
import java.net.URLClassLoader;
import java.nio.file.Files;
import java.nio.file.Path;
import java.util.ArrayList;
import java.util.Arrays;
import java.util.Comparator;
import java.util.List;
import java.util.Map;
import java.util.Set;
import java.util.TreeSet;
import java.util.regex.Matcher;
import java.util.regex.Pattern;
import java.util.stream.Collectors;
import java.util.stream.Stream;
import javax.tools.JavaCompiler;
import javax.tools.ToolProvider;

/**
 * What README.md shows: the Java that stands there is compiled and run as it is, each call with the answer
 * behind it; and the table of calls, each with what it takes, refuses and answers in the place of BAD.
 * Runs from the project's root, as .ci/run does.
 */
public final class ReadmeTest {
    private static final Map<String, Integer> CONSTANTS = Map.of("NONE", LastHappened.NONE, "BAD", LastHappened.BAD,
        "NO", LastHappened.NO, "FULL", LastHappened.FULL);
    private static final Pattern SHOWN = Pattern.compile(
        " *(x\\.(\\w+)\\((.*)\\)); *// (-?\\d+|[A-Z]+)(:.*)?");
    private static final Pattern RANGE = Pattern.compile("`(\\w+)` (-?\\d+)\\.\\.(\\d*)");

    private ReadmeTest() {
    }

    private static void holds(String what, boolean isSo) {
        Calls.due(what, isSo ? 1 : 0, 1);
    }

    private static List<String> javaLines(List<String> page) {
        List<String> lines = new ArrayList<>();
        boolean isJava = false;
        for (String line : page) {
            if (line.startsWith("```")) {
                isJava = line.equals("```java");
            } else if (isJava) {
                lines.add(line);
            }
        }
        return lines;
    }

    /** All Java of the page as one run: its answers, in their order. */
    private static long[] answers(List<String> lines) throws IOException, ReflectiveOperationException {
        StringBuilder source = new StringBuilder("public final class Shown {\n    public static long[] answers() {\n"
            + "        java.util.List<Long> got = new java.util.ArrayList<>();\n");
        for (String line : lines) {
            Matcher shown = SHOWN.matcher(line);
            source.append(shown.matches() ? "got.add((long) " + shown.group(1) + ");" : line).append('\n');
        }
        source.append("        return got.stream().mapToLong(v -> v).toArray();\n    }\n}\n");
        Path place = Files.createTempDirectory("shown");
        try {
            return run(place, Files.writeString(place.resolve("Shown.java"), source));
        } finally {
            try (Stream<Path> made = Files.walk(place)) {
                for (Path each : made.sorted(Comparator.reverseOrder()).collect(Collectors.toList())) {
                    Files.delete(each);
                }
            }
        }
    }

    private static long[] run(Path place, Path source) throws IOException, ReflectiveOperationException {
        JavaCompiler javac = ToolProvider.getSystemJavaCompiler();
        int refused = javac.run(null, null, null, "-cp", System.getProperty("java.class.path"), "-d", place.toString(),
            source.toString());
        Calls.due("javac of what README.md shows", refused, 0);
        if (refused != 0) {
            return new long[0];
        }
        try (URLClassLoader loader = new URLClassLoader(new URL[] {place.toUri().toURL()})) {
            return (long[]) loader.loadClass("Shown").getMethod("answers").invoke(null);
        }
    }

    private static void whatIsShown(List<String> page) throws IOException, ReflectiveOperationException {
        Calls.part("README.md: each call with its answer");
        List<String> lines = javaLines(page);
        long[] got = answers(lines);
        Set<String> called = new TreeSet<>();
        int at = 0;
        for (String line : lines) {
            Matcher shown = SHOWN.matcher(line);
            if (!shown.matches()) {
                holds("README.md: a call without its answer: " + line, !line.matches("x\\..*"));
                continue;
            }
            long want = CONSTANTS.containsKey(shown.group(4)) ? CONSTANTS.get(shown.group(4))
                : Long.parseLong(shown.group(4));
            Calls.due("README.md: " + shown.group(1), at < got.length ? got[at] : Long.MIN_VALUE, want);
            called.add(shown.group(2));
            at++;
        }
        holds("README.md shows every call; it shows " + called, called.equals(new TreeSet<>(List.of(Calls.NAMES))));
    }

    private static void whatIsTold(List<String> page) {
        Calls.part("README.md: what the calls take and refuse");
        List<String> told = new ArrayList<>();
        for (String line : page) {
            Matcher row = Pattern.compile("\\| `(\\w+)\\((.*?)\\)` \\| (.*?) ?\\| (.*) \\| (.*?) ?\\|").matcher(line);
            if (row.matches()) {
                told.add(row.group(1));
                new Row(row.group(1), row.group(2), row.group(3), row.group(5)).check();
            }
        }
        holds("README.md tells of every call, once, in the order of the face: " + told, told.equals(List.of(Calls.NAMES)));
    }

    /** A row of the table of calls, held against a full object. */
    private static final class Row {
        private final String name;
        private final String refuses;
        private final String[] arguments;
        private final long[] low;
        private final long[] high;

        Row(String name, String arguments, String takes, String refuses) {
            this.name = name;
            this.refuses = refuses;
            this.arguments = arguments.isEmpty() ? new String[0] : arguments.split(", ");
            this.low = new long[this.arguments.length];
            this.high = new long[this.arguments.length];
            Matcher range = RANGE.matcher(takes);
            int ranges = 0;
            for (; range.find(); ranges++) {
                holds(name + ": " + range.group(1) + " where it is taken",
                    ranges < low.length && range.group(1).equals(this.arguments[ranges]));
                low[ranges] = Long.parseLong(range.group(2));
                high[ranges] = range.group(3).isEmpty() ? Integer.MAX_VALUE : Long.parseLong(range.group(3));
            }
            Calls.due(name + ": what each argument takes", ranges, low.length);
        }

        void check() {
            int takes = Calls.TAKES[List.of(Calls.NAMES).indexOf(name)];
            Calls.due(name + ": how many it takes", arguments.length, takes);
            holds(name + ": what it refuses: " + refuses, refuses.equals(whatItRefuses()));
            for (int place = 0; place < takes; place++) {
                answered(place, low[place], false);
                answered(place, high[place], false);
                answered(place, low[place] - 1, true);
                if (high[place] < Integer.MAX_VALUE) {
                    answered(place, high[place] + 1, true);
                }
            }
        }

        /** The page's words for what the face refuses; NO and FULL are called forth below. */
        private String whatItRefuses() {
            switch (name) {
                case "clear": case "read": case "burn": case "digest": return "";
                case "undo": return "`NO` (there is none)";
                case "from": return "`BAD`, `NO` (none was kept)";
                case "stage": case "truly": return "-10 (as `BAD`)";
                case "status": return "-1 (as `BAD`)";
                case "street": return "`BAD`, `FULL` (there are 7)";
                case "event": return "`BAD`, `FULL` (there are 8)";
                case "reading": return "`BAD`, `FULL` (there are 6)";
                case "type": return "`BAD`, `FULL` (it has 150)";
                default: return "`BAD`";
            }
        }

        private void answered(int place, long number, boolean isBad) {
            int[] v = usual();
            v[place] = (int) number;
            LastHappened x = States.made(States.FULL);
            long got = Calls.call(x, name, v);
            String call = name + Arrays.toString(v);
            Calls.due(call + ": refused as BAD", x.status(0), isBad ? 1 : 0);
            if (isBad) {
                Calls.due(call, got, refuses.startsWith("-") ? Integer.parseInt(refuses.replaceAll(" .*", "")) : -2);
            } else if (refuses.contains("FULL")) {
                Calls.due(call, got, LastHappened.FULL);
            } else if (name.equals("from") && number == 1) {
                Calls.due(call, got, LastHappened.NO);
            } else {
                holds(call + " is not refused", x.status(1) == 0 && x.status(2) == 0);
            }
        }

        /** Numbers that are taken together, of which any one can go to its edges. */
        private int[] usual() {
            int[] v = new int[arguments.length];
            for (int place = 0; place < v.length; place++) {
                v[place] = (int) low[place];
            }
            if (name.equals("street") || name.equals("landlords")) {
                v[0] = 3;
                v[1] = 4;
            } else if (name.equals("which") || name.equals("letter")) {
                v[2] = 23;
            }
            return v;
        }
    }

    private static void whatIsRun(List<String> page, Path tests) throws IOException {
        Calls.part("README.md: the tests it tells of");
        Set<String> told = new TreeSet<>();
        for (String line : page) {
            Matcher row = Pattern.compile("\\| `(\\w+Test)` \\| .*").matcher(line);
            if (row.matches()) {
                told.add(row.group(1) + ".java");
            }
        }
        try (Stream<Path> there = Files.list(tests)) {
            Set<String> run = there.map(p -> p.getFileName().toString()).filter(n -> n.endsWith("Test.java"))
                .collect(Collectors.toCollection(TreeSet::new));
            holds("README.md tells of " + told + ", there are " + run, told.equals(run));
        }
        holds("README.md tells how to run them", page.contains("bash .ci/run"));
        holds("it is there to be run", Files.isExecutable(Path.of(".ci/run")));
    }

    public static void main(String[] args) throws IOException, ReflectiveOperationException {
        List<String> page = Files.readAllLines(Path.of("README.md"));
        whatIsShown(page);
        whatIsTold(page);
        whatIsRun(page, Path.of("src/test/java"));
        Calls.finish("what README.md shows and tells");
    }
}
