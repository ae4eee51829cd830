import java.io.IOException;
import java.lang.reflect.Method;
import java.lang.reflect.Modifier;
import java.nio.file.Files;
import java.nio.file.Path;
import java.util.ArrayList;
import java.util.Arrays;
import java.util.List;
import java.util.Set;
import java.util.TreeSet;
import java.util.regex.MatchResult;
import java.util.regex.Matcher;
import java.util.regex.Pattern;
import java.util.stream.Collectors;
import java.util.stream.Stream;

/**
 * What README.md says is so: its example, its tables of constants, SORTS, SETTINGS, calls and tests; run from the
 * project's folder.
 */
public final class ReadmeTest {
    private static final int BAD = -1000002;
    private static final Due DUE = new Due("ReadmeTest");
    private static final Pattern EXAMPLE = Pattern.compile("x\\.(\\w+)\\(([^)]*)\\); +// (-?\\d+|NONE|BAD|NO|FULL)(:.*)?");
    private static final Pattern CALL = Pattern.compile("`(\\w+)\\(([^)]*)\\)`( S)?");
    private static final Pattern TAKEN = Pattern.compile("`(\\w+)` (?:(-?\\d+)\\.\\.(-?\\d+)|a (SPAN|NODE)|as its row)");

    private ReadmeTest() {
    }

    public static void main(String[] args) throws IOException, ReflectiveOperationException {
        List<String> lines = Files.readAllLines(Path.of("README.md"));
        example(lines);
        constants(table(lines, "| constant |"));
        sorts(table(lines, "| SORT |"));
        settings(table(lines, "| SETTING |"));
        calls(table(lines, "| call |"));
        tests(table(lines, "| test |"));
        DUE.end();
    }

    /** The rows of all tables with such a head, each as its cells. */
    private static List<String[]> table(List<String> lines, String head) {
        List<String[]> rows = new ArrayList<>();
        boolean inside = false;
        for (String line : lines) {
            if (line.startsWith(head)) {
                inside = true;
            } else if (!line.startsWith("|")) {
                inside = false;
            } else if (inside && !line.startsWith("| ---")) {
                rows.add(Arrays.stream(line.split("\\|", -1)).map(String::strip).skip(1).toArray(String[]::new));
            }
        }
        DUE.holds("there are rows of " + head, !rows.isEmpty());
        return rows;
    }

    private static Method method(String name) {
        for (Method m : HoseSpans.class.getDeclaredMethods()) {
            if (Modifier.isPublic(m.getModifiers()) && m.getName().equals(name)) {
                return m;
            }
        }
        throw new IllegalStateException("README.md tells of a call that there is not: " + name);
    }

    private static long call(HoseSpans x, String name, Object... numbers) throws ReflectiveOperationException {
        return ((Number) method(name).invoke(x, numbers)).longValue();
    }

    private static long answer(String told) throws ReflectiveOperationException {
        return told.matches("[A-Z]+") ? HoseSpans.class.getField(told).getInt(null) : Long.parseLong(told);
    }

    private static Object[] numbers(String told) {
        return Stream.of(told.split(", ")).filter(n -> !n.isEmpty())
            .map(n -> n.charAt(0) == '\'' ? (int) n.charAt(1) : Integer.parseInt(n)).toArray();
    }

    private static void example(List<String> lines) throws ReflectiveOperationException {
        DUE.part("the example");
        int at = lines.indexOf("HoseSpans x = new HoseSpans();");
        DUE.holds("it begins with a new object", at > 0);
        HoseSpans x = new HoseSpans();
        Set<String> answers = new TreeSet<>();
        for (String line : lines.subList(at + 1, at + 1 + lines.subList(at, lines.size()).indexOf("```") - 1)) {
            Matcher m = EXAMPLE.matcher(line);
            DUE.holds(line + " tells its answer", m.matches());
            if (m.matches()) {
                DUE.is(line, call(x, m.group(1), numbers(m.group(2))), answer(m.group(3)));
                answers.add(m.group(3));
            }
        }
        DUE.holds("some are refused or NONE", answers.containsAll(Set.of("BAD", "NO", "NONE")));
    }

    private static void constants(List<String[]> rows) throws ReflectiveOperationException {
        DUE.part("constants");
        DUE.is("rows", rows.size(), 4);
        for (String[] row : rows) {
            DUE.is(row[0], answer(row[0].replace("`", "")), Long.parseLong(row[1]));
        }
    }

    private static void sorts(List<String[]> rows) {
        DUE.part("SORTS");
        DUE.is("rows", rows.size(), 4);
        for (String[] row : rows) {
            int sort = Integer.parseInt(row[0]);
            int stands = Integer.parseInt(row[2]);
            HoseSpans x = new HoseSpans();
            x.span(1, 3, -50, 0);
            x.span(1, sort, 0, 0);
            DUE.is("HARD of SORT " + sort, x.loss(1, 10), Integer.parseInt(row[1]));
            x.sets(0, 1);
            x.sets(2, 0);
            x.sets(3, stands - 50);
            x.pumps(0);
            DUE.is("how SORT " + sort + " FAILS by " + stands, x.run(1), 0);
            x.sets(3, stands - 49);
            DUE.is("how SORT " + sort + " FAILS by one more", x.run(1), 4);
        }
    }

    private static void settings(List<String[]> rows) {
        DUE.part("SETTINGS");
        DUE.is("rows", rows.size(), 6);
        for (String[] row : rows) {
            int k = Integer.parseInt(row[0]);
            int from = Integer.parseInt(row[2]);
            int to = Integer.parseInt(row[3]);
            HoseSpans x = new HoseSpans();
            DUE.is(row[1] + " from", x.sets(k, from), Integer.parseInt(row[4]));
            DUE.is(row[1] + " to", x.sets(k, to), from);
            DUE.is(row[1] + " less", x.sets(k, from - 1), BAD);
            DUE.is(row[1] + " more", x.sets(k, to + 1), BAD);
        }
    }

    private static void calls(List<String[]> rows) throws ReflectiveOperationException {
        DUE.part("calls");
        Set<String> told = new TreeSet<>();
        for (String[] row : rows) {
            Matcher m = CALL.matcher(row[0]);
            DUE.holds(row[0] + " is a call", m.matches());
            if (m.matches()) {
                told.add(m.group(1));
                takes(m.group(1), m.group(2), row[1]);
                DUE.holds(row[0] + " is BAD if it takes a number", row[3].contains("`BAD`") == !row[1].isEmpty());
                DUE.holds(row[0] + " marked S or not", leavesState(m.group(1), row[1]) == (m.group(3) != null));
            }
        }
        Set<String> face = Arrays.stream(HoseSpans.class.getDeclaredMethods())
            .filter(m -> Modifier.isPublic(m.getModifiers())).map(Method::getName).collect(Collectors.toSet());
        DUE.holds("each call has a row", told.equals(face) && rows.size() == face.size());
    }

    /** One WHOLE SPAN that no PUMP is needed for, LENGTHS to mend it, an ORDER, three STATES. */
    private static HoseSpans ready() {
        HoseSpans x = new HoseSpans();
        x.span(1, 3, 0, 0);
        x.sets(2, 0);
        x.sets(5, 20);
        x.type('c');
        x.type(';');
        return x;
    }

    /** Each number's least and greatest are taken, what is one beyond is not, while the others are the least. */
    private static void takes(String name, String names, String taken) throws ReflectiveOperationException {
        List<MatchResult> ranges = TAKEN.matcher(taken).results().toList();
        String found = ranges.stream().map(m -> m.group(1)).collect(Collectors.joining(", "));
        DUE.holds(name + ": all its numbers are told: " + found, found.equals(names));
        DUE.is(name + ": numbers", ranges.size(), method(name).getParameterCount());
        for (int which = 0; which < ranges.size(); which++) {
            MatchResult range = ranges.get(which);
            if (range.group(2) == null && range.group(4) == null) {
                continue;
            }
            int[] tried = {least(range) - 1, least(range), greatest(range), greatest(range) + 1};
            for (int t = 0; t < tried.length; t++) {
                Object[] numbers = ranges.stream().map(ReadmeTest::least).toArray();
                numbers[which] = tried[t];
                boolean refused = call(ready(), name, numbers) == BAD;
                DUE.holds(name + Arrays.toString(numbers) + " is BAD or not", refused == (t == 0 || t == 3));
            }
        }
    }

    private static int least(MatchResult range) {
        if (range.group(2) != null) {
            return Integer.parseInt(range.group(2));
        }
        return range.group(4) != null ? 0 : 20; // 20 is taken by every SETTING
    }

    private static int greatest(MatchResult range) {
        if (range.group(3) != null) {
            return Integer.parseInt(range.group(3));
        }
        return range.group(4).equals("SPAN") ? 0 : 1;
    }

    private static boolean leavesState(String name, String taken) throws ReflectiveOperationException {
        HoseSpans x = ready();
        if (name.equals("mends")) {
            x.bursts(0);
        }
        int before = x.told(4);
        call(x, name, TAKEN.matcher(taken).results().map(ReadmeTest::least).toArray());
        return x.told(4) > before;
    }

    private static void tests(List<String[]> rows) throws IOException {
        DUE.part("tests");
        Set<String> told = rows.stream().map(row -> row[0].replace("`", "")).collect(Collectors.toSet());
        try (Stream<Path> files = Files.list(Path.of("src/test/java"))) {
            Set<String> there = files.map(f -> f.getFileName().toString()).filter(f -> f.endsWith("Test.java"))
                .map(f -> f.replace(".java", "")).collect(Collectors.toSet());
            DUE.holds("the tests " + there + " have a row each", told.equals(there) && rows.size() == there.size());
        }
    }
}
