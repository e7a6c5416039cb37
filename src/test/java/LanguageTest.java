import java.lang.reflect.Constructor;
import java.lang.reflect.Field;
import java.lang.reflect.Method;
import java.lang.reflect.Modifier;
import java.nio.file.Files;
import java.nio.file.Path;
import java.util.ArrayList;
import java.util.List;
import java.util.Map;
import java.util.Set;
import java.util.TreeMap;
import java.util.TreeSet;
import java.util.regex.Matcher;
import java.util.regex.Pattern;

/** The rules of LANGUAGE.md that can be seen from the source, or from the classes as they are loaded. */
public final class LanguageTest {
    private static final Path SOURCE = Path.of("src/main/java/MilestonesOn.java");
    private static final String[] FACE = {
        "int row(int,int)", "int lay(int,int,int)", "int at(int,int)", "int tear(int)",
        "int copy(int,int,int,int,int)", "int mean(int)", "int text(int,int)", "int put(int,int,int)",
        "int fault(int)", "int road(int)", "int stone(int,int)", "int walker(int,int)", "int mark(int,int)",
        "int law(int)", "int walk(int)", "int pays(int)", "int undo(int)", "int walks(int)", "int where(int)",
        "int apart()", "int keep(int)", "int on(int)", "int sees(int)", "int may(int)", "int standings(int,int)",
        "int look(int)", "int fewest()", "int way(int)", "int all()", "int best()", "int nearest()",
        "int brings(int,int)", "int earn(int)", "int moved(int)", "int who(int)", "int odds(int,int,int)",
        "int years(int,int)", "int asked()", "long upper()", "long lower()", "int count(int)", "int finding()",
        "int findings(int)", "long digest()"};
    private static final String[] FORBIDDEN = {"throw", "throws", "try", "catch", "finally", "synchronized",
        "assert", "var", "volatile", "native", "Object", "Thread", "Random", "HashMap", "Map", "Set", "Character",
        "Override", "hashCode", "toString", "protected"};
    private static final int MOST_CLASSES = 12, MOST_FIELDS = 20, MOST_PARAMETERS = 7, MOST_LINES = 60,
        MOST_DEEP = 8;

    private static final String SUPER = "super.";

    private static int wrong = 0;

    private static void hold(boolean right, String what) {
        if (!right) {
            wrong++;
            System.out.println("not so: " + what);
        }
    }

    public static void main(String[] args) throws Exception {
        String code = withoutComments(Files.readString(SOURCE));
        face();
        constants();
        classes();
        words(code);
        lengths(code);
        depths(code);
        sameAnswers();
        System.out.println(wrong == 0 ? "the rules hold" : wrong + " rules are broken");
        if (wrong != 0) System.exit(1);
    }

    private static String withoutComments(String source) {
        return source.replaceAll("(?s)/\\*.*?\\*/", "").replaceAll("//[^\n]*", "");
    }

    private static void face() {
        Class<?> type = MilestonesOn.class;
        hold(Modifier.isFinal(type.getModifiers()) && Modifier.isPublic(type.getModifiers()), "public final class");
        Set<String> seen = new TreeSet<>();
        for (Method m : type.getDeclaredMethods()) {
            if (Modifier.isPrivate(m.getModifiers()) || m.isSynthetic()) continue;
            hold(Modifier.isPublic(m.getModifiers()) && !Modifier.isStatic(m.getModifiers()), m + " is of the face");
            StringBuilder one = new StringBuilder(m.getReturnType() + " " + m.getName() + "(");
            for (Class<?> p : m.getParameterTypes()) {
                one.append(one.charAt(one.length() - 1) == '(' ? "" : ",").append(p);
            }
            seen.add(one + ")");
        }
        hold(seen.equals(new TreeSet<>(List.of(FACE))), "the methods are those of the face: " + seen);
        Constructor<?>[] made = type.getDeclaredConstructors();
        hold(made.length == 1 && made[0].getParameterCount() == 0 && Modifier.isPublic(made[0].getModifiers()),
            "one public constructor");
    }

    private static void constants() throws Exception {
        Set<String> open = new TreeSet<>();
        for (Field f : MilestonesOn.class.getDeclaredFields()) {
            if (!Modifier.isPrivate(f.getModifiers()) && !f.isSynthetic()) {
                open.add(f.getName() + "=" + f.getInt(null));
            }
        }
        hold(open.equals(new TreeSet<>(List.of("BAD=-1", "FULL=-2", "FINDING=-3", "STATE=-4", "SPENT=-6", "NONE=-9"))),
            "the constants are those of the face: " + open);
    }

    private static void classes() {
        List<Class<?>> all = new ArrayList<>(List.of(MilestonesOn.class));
        all.addAll(List.of(MilestonesOn.class.getDeclaredClasses()));
        hold(all.size() <= MOST_CLASSES, all.size() + " classes");
        Set<String> open = new TreeSet<>();
        for (Method m : MilestonesOn.class.getMethods()) open.add(m.getName());
        for (Class<?> type : all) {
            hold(type == MilestonesOn.class || Modifier.isStatic(type.getModifiers()), type + " is static");
            int fields = 0;
            for (Field f : type.getDeclaredFields()) {
                if (f.isSynthetic()) continue;
                hold(!Modifier.isStatic(f.getModifiers()) || Modifier.isFinal(f.getModifiers()), f + " is final");
                fields += Modifier.isStatic(f.getModifiers()) ? 0 : 1;
            }
            hold(fields <= MOST_FIELDS, type + " has " + fields + " fields");
            for (Method m : type.getDeclaredMethods()) {
                hold(m.getParameterCount() <= MOST_PARAMETERS, m + " has few parameters");
                boolean own = type == MilestonesOn.class && Modifier.isPublic(m.getModifiers());
                hold(own || m.isSynthetic() || !open.contains(m.getName()), m + " bears no public name");
            }
        }
    }

    private static void words(String code) {
        for (String word : FORBIDDEN) {
            hold(!Pattern.compile("\\b" + word + "\\b").matcher(code).find(), "no " + word);
        }
        hold(!code.contains("->") && !code.contains("::"), "no lambda, no method reference");
        hold(!code.contains("package "), "no package");
        hold(!code.contains("\""), "no text is needed");
        hold(!Pattern.compile("\\w+Exact\\b").matcher(code).find(), "none that ends in Exact");
        hold(code.chars().allMatch(c -> c < 128), "signs 1 to 127 alone");
        Matcher imports = Pattern.compile("import ([\\w.]+);").matcher(code);
        while (imports.find()) {
            hold(imports.group(1).equals("java.util.Arrays"), "import " + imports.group(1));
        }
        Matcher used = Pattern.compile("\\b(System|Arrays|Math|Integer|Long)\\.(\\w+)").matcher(code);
        while (used.find()) {
            String one = used.group(1) + "." + used.group(2);
            hold(Set.of("System.arraycopy", "Arrays.fill", "Math.max", "Math.min", "Math.abs").contains(one), one);
        }
    }

    private static void lengths(String code) {
        String[] lines = code.split("\n");
        int from = -1;
        String indent = "";
        for (int i = 0; i < lines.length; i++) {
            Matcher head = Pattern.compile("^( {4}| {8})[^ ].*\\) \\{$").matcher(lines[i]);
            if (from < 0 && head.find()) {
                from = i;
                indent = head.group(1);
            } else if (from >= 0 && lines[i].equals(indent + "}")) {
                hold(i - from < MOST_LINES, "a short method at " + lines[from].trim());
                from = -1;
            }
        }
    }

    // ---- how deep calls go

    /** By names alone: a call may be of any method that bears its name, so what is counted is never too little. */
    private static void depths(String code) {
        Map<String, List<Set<String>>> calls = callsOf(code);
        hold(calls.size() > 100, "methods were found: " + calls.size());
        for (Method m : MilestonesOn.class.getDeclaredMethods()) {
            if (Modifier.isPublic(m.getModifiers())) {
                int deep = depthOf(m.getName(), calls, 0);
                hold(deep <= MOST_DEEP, m.getName() + "() goes " + deep + " calls deep");
            }
        }
    }

    private static int depthOf(String name, Map<String, List<Set<String>>> calls, int open) {
        if (open > 2 * MOST_DEEP) {
            return open;
        }
        int deepest = 0;
        for (Set<String> called : calls.getOrDefault(name, List.of())) {
            for (String next : called) {
                deepest = Math.max(deepest, depthOf(next, calls, open + 1));
            }
        }
        return deepest + 1;
    }

    /** The names that each method calls, for each method of a name. */
    private static Map<String, List<Set<String>>> callsOf(String code) {
        Map<String, String> bodies = new TreeMap<>();
        String method = "(?m)^( {4}| {8})(?=\\S)[\\w\\[\\] ]*?\\b(\\w+)\\([^;{}]*\\) \\{$((?s:.*?))^\\1\\}$";
        Matcher heads = Pattern.compile(method).matcher(code);
        int from = 0;
        int many = 0;
        while (heads.find(from)) {
            bodies.put(heads.group(2) + " " + many++, heads.group(3));
            from = heads.end();
        }
        Set<String> names = new TreeSet<>();
        bodies.keySet().forEach(key -> names.add(key.split(" ")[0]));
        Map<String, List<Set<String>>> calls = new TreeMap<>();
        bodies.forEach((key, body) -> {
            Set<String> called = new TreeSet<>();
            Matcher uses = Pattern.compile("(super\\.)?\\b(\\w+)\\(").matcher(body);
            while (uses.find()) {
                String use = uses.group(2);
                if (uses.group(1) != null) {
                    called.add(SUPER + use);
                } else if (names.contains(use) || use.matches("max|min|abs|fill|arraycopy")) {
                    called.add(use);
                }
            }
            calls.computeIfAbsent(key.split(" ")[0], k -> new ArrayList<>()).add(called);
        });
        addSupers(calls);
        return calls;
    }

    /** What stands above may call all that its name calls, and once more what stands above it. */
    private static void addSupers(Map<String, List<Set<String>>> calls) {
        for (String name : List.copyOf(calls.keySet())) {
            Set<String> above = new TreeSet<>();
            calls.get(name).forEach(above::addAll);
            if (above.remove(SUPER + name)) {
                above.add(SUPER + SUPER + name);
                calls.put(SUPER + name, List.of(above));
            }
        }
    }

    // ---- the same calls give the same answers

    /** Whatever another object is asked in between: there is no state but the object's own. */
    private static void sameAnswers() {
        MilestonesOn alone = new MilestonesOn();
        MilestonesOn one = new MilestonesOn();
        MilestonesOn other = new MilestonesOn();
        answers(other, "r4 m12 m30 m93 l21 l10 t32 b03 w03");
        List<Long> first = answers(alone, "r7 m11 m51 m75 m33 w30 w16 p30 b41 c12");
        answers(other, "r3 m11 m91 l10 c10 w10");
        List<Long> again = answers(one, "r7 m11 m51 m75 m33 w30 w16 p30 b41 c12");
        hold(first.equals(again), "the same calls give the same answers: " + first + ", " + again);
        hold(answers(other, "r7 m11 m51 m75 m33 w30 w16 p30 b41 c12").subList(0, 20).equals(first.subList(0, 20)),
            "an object with another past answers the same on the same road");
    }

    private static List<Long> answers(MilestonesOn x, String road) {
        List<Long> all = new ArrayList<>();
        Due.write(x, 0, road);
        all.add((long) x.road(0));
        for (int i = 0; i < 8; i++) {
            long[] told = {x.walk(i % 3), x.fewest(), x.asked(), x.best(), x.asked(), x.all(), x.asked(), x.nearest(),
                x.asked(), x.earn(3), x.asked(), x.look(2), x.asked(), x.years(9, i + 1), x.asked(), x.where(1),
                x.undo(i / 2), x.moved(1), x.who(1), x.law(i % 3), x.keep(0), x.odds(0, 1, 2), x.upper(), x.lower()};
            for (long v : told) {
                all.add(v);
            }
        }
        all.add(x.digest());
        return all;
    }
}
