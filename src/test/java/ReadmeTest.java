import java.lang.reflect.Method;
import java.lang.reflect.Modifier;
import java.nio.file.Files;
import java.nio.file.Path;
import java.util.List;
import java.util.Set;
import java.util.TreeSet;
import java.util.regex.Matcher;
import java.util.regex.Pattern;
import java.util.stream.Stream;

/** README.md says how to use the class and how to run its tests: each answer, call and test that it names is so. */
public final class ReadmeTest {
    private static final Path TESTS = Path.of("src/test/java");
    private static final Pattern BLOCK = Pattern.compile("(?s)```java\n(.*?)```");
    private static final Pattern ROAD = Pattern.compile("String road = \"([^\"]*)\";");
    private static final Pattern CALL = Pattern.compile("x\\.(\\w+)\\(([-\\d, ]*)\\);\\s*// (-?\\d+): .*");
    private static final Pattern ROW = Pattern.compile("row (\\d) now: ([\\d ]+)$");
    private static final Pattern NAMED = Pattern.compile("`(\\w+)\\(([\\w, ]*)\\)`");

    private static int wrong = 0;
    private static int held = 0;

    private static void hold(boolean right, String what) {
        held++;
        if (!right) {
            wrong++;
            System.out.println("not so: " + what);
        }
    }

    public static void main(String[] args) throws Exception {
        String page = Files.readString(Path.of("README.md"));
        examples(page);
        refusals(page);
        findings(page);
        calls(page);
        tests(page);
        System.out.println("ReadmeTest: " + held + " places held, " + wrong + " wrong");
        if (wrong != 0) System.exit(1);
    }

    /** All examples are one run of calls on one object, each with its answer behind it. */
    private static void examples(String page) throws Exception {
        MilestonesOn x = new MilestonesOn();
        int called = 0;
        Matcher blocks = BLOCK.matcher(page);
        while (blocks.find()) {
            for (String line : blocks.group(1).split("\n")) {
                Matcher road = ROAD.matcher(line);
                Matcher call = CALL.matcher(line);
                if (road.matches()) {
                    Due.write(x, 0, road.group(1));
                } else if (call.matches()) {
                    called++;
                    long got = answer(x, call.group(1), numbers(call.group(2)));
                    hold(got == Long.parseLong(call.group(3)), line + " (answered " + got + ")");
                    namesRefusal(line, got);
                    holdsRow(x, line);
                } else {
                    hold(!line.contains("//"), "an answer that can be read: " + line);
                }
            }
        }
        hold(called > 20, "examples are there: " + called);
    }

    private static Object[] numbers(String list) {
        return list.isBlank() ? new Object[0] : Stream.of(list.split(",")).map(n -> Integer.valueOf(n.trim())).toArray();
    }

    private static long answer(MilestonesOn x, String name, Object[] numbers) throws Exception {
        for (Method m : MilestonesOn.class.getMethods()) {
            if (m.getName().equals(name) && m.getParameterCount() == numbers.length) {
                return ((Number) m.invoke(x, numbers)).longValue();
            }
        }
        hold(false, "there is a call " + name);
        return 0;
    }

    /** An answer below 0 is told by its name, too. */
    private static void namesRefusal(String line, long got) throws Exception {
        for (String name : List.of("BAD", "FULL", "FINDING", "STATE", "SPENT", "NONE")) {
            if (MilestonesOn.class.getField(name).getInt(null) == got) {
                hold(line.contains(": " + name), name + " in " + line);
            }
        }
    }

    private static void holdsRow(MilestonesOn x, String line) {
        Matcher row = ROW.matcher(line);
        if (row.find()) {
            int r = Integer.parseInt(row.group(1));
            String[] places = row.group(2).split(" ");
            for (int i = 0; i < places.length; i++) {
                hold(x.at(r, i) == 1 && x.asked() == Integer.parseInt(places[i]), "place " + i + ", " + line);
            }
        }
    }

    private static void refusals(String page) throws Exception {
        for (String name : List.of("BAD", "FULL", "STATE", "SPENT", "FINDING")) {
            int value = MilestonesOn.class.getField(name).getInt(null);
            hold(page.contains("| " + value + " | `" + name + "` |"), name + " is " + value);
        }
        hold(page.contains("`NONE` (" + MilestonesOn.NONE + ")"), "NONE");
    }

    private static void findings(String page) {
        MilestonesOn x = Due.road("r3 m10 w01");
        x.row(0, 0);
        int[] answers = {0, x.tear(1), x.at(0, 0), x.mark(0, 1), x.mean(0), x.row(0, -1)};
        String[] names = {"", "NOTHING", "BEYOND", "UNLIKE", "NOUGHT", "SIZE"};
        for (int f = 1; f <= 5; f++) {
            hold(answers[f] == MilestonesOn.FINDING && x.findings(f) == 1, "finding " + f);
            hold(page.contains("| " + f + " | `" + names[f] + "` |"), names[f] + " is " + f);
        }
    }

    /** The table names each call of the face, with as many numbers as it takes. */
    private static void calls(String page) {
        Set<String> named = new TreeSet<>();
        Matcher calls = NAMED.matcher(page.substring(page.indexOf("### The calls"), page.indexOf("## How it is built")));
        while (calls.find()) {
            named.add(calls.group(1) + " " + (calls.group(2).isBlank() ? 0 : calls.group(2).split(",").length));
        }
        Set<String> due = new TreeSet<>();
        for (Method m : MilestonesOn.class.getDeclaredMethods()) {
            if (Modifier.isPublic(m.getModifiers())) {
                due.add(m.getName() + " " + m.getParameterCount());
            }
        }
        hold(named.equals(due), "the calls are " + due + ", not " + named);
    }

    private static void tests(String page) throws Exception {
        String part = page.substring(page.indexOf("## Tests"));
        try (Stream<Path> files = Files.list(TESTS)) {
            for (Path file : files.toList()) {
                String name = file.getFileName().toString().replace(".java", "");
                hold(part.contains("`" + name + "`"), "README names " + name);
            }
        }
        Matcher names = Pattern.compile("`(\\w+Test)`").matcher(part);
        while (names.find()) {
            hold(Files.exists(TESTS.resolve(names.group(1) + ".java")), "there is " + names.group(1));
        }
        hold(part.contains("`.ci/run`") && Files.isExecutable(Path.of(".ci/run")), ".ci/run runs the tests");
    }
}
