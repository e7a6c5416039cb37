import java.lang.reflect.Method;
import java.lang.reflect.Modifier;
import java.nio.file.Files;
import java.nio.file.Path;
import java.util.ArrayList;
import java.util.List;
import java.util.Set;
import java.util.TreeSet;
import java.util.regex.Matcher;
import java.util.regex.Pattern;

/**
 * The document from its first line to its last: each sentence is quoted by a test that holds it (EdgesOf*Test), or is
 * one of the few that are held here, or that promise nothing. A sentence that comes new is told by its words.
 */
public final class DocumentTest {
    private static final int PROMISES = 45;
    private static final Path SOURCE = Path.of("src/main/java/MilestonesOn.java");
    private static final Pattern BLOCK = Pattern.compile("## The public face ```java (.*?) ```");
    private static final Pattern CALL = Pattern.compile("public (?:int|long) (\\w+)\\([^)]*\\);");
    private static final Pattern HEADING =
        Pattern.compile("Ahead of the calls ([`\\w, ]+) the interface says: (---- \\d [a-z, ]*[a-z])");

    /** What the document says ahead of its promises, and what of it no call can break. */
    private static final List<Pattern> TELLS_NOTHING_MORE = List.of(
        Pattern.compile("# MilestonesOn ## What it is Milestones carried on: .*? ======== ANSWERS\\."),
        Pattern.compile("## Terms|======== [12] |```text|```"));

    private static int wrong = 0;

    private static void hold(boolean right, String what) {
        if (!right) {
            wrong++;
            System.out.println("not so: " + what);
        }
    }

    public static void main(String[] args) throws Exception {
        if (!Edge.isDocumentThere()) {
            return;
        }
        EdgesOfRowsTest.main(args);
        EdgesOfRoadsTest.main(args);
        EdgesOfWalksTest.main(args);
        EdgesOfHomeTest.main(args);
        EdgesOfTellingTest.main(args);
        List<String> face = face();
        headings(face);
        promisesNamed(face);
        terms();
        for (int promise = 1; promise <= PROMISES; promise++) {
            quoted(promise, withoutHead(promise));
        }
        hold(Edge.section(PROMISES + 1).startsWith(" How the state is held inside the object is free"),
            "behind the promises comes what is not promised");
        System.out.println(wrong == 0 ? "each sentence has its test" : wrong + " places of the document have no test");
        if (wrong != 0) System.exit(1);
    }

    // ---- each sentence

    private static void terms() {
        String terms = BLOCK.matcher(Edge.section(Edge.TERMS)).replaceFirst("");
        for (Pattern one : TELLS_NOTHING_MORE) {
            hold(one.matcher(terms).find(), "the document has " + one);
            terms = one.matcher(terms).replaceAll(" ");
        }
        quoted(Edge.TERMS, HEADING.matcher(terms).replaceAll("$2").replaceAll("---- \\d [a-z, ]+\\.", ""));
    }

    private static String withoutHead(int promise) {
        return Edge.section(promise).replaceFirst("^[\\w ]+ `[^`]+`: ", "");
    }

    /** Of a section nothing but stops and blanks may be left outside the quotes. */
    private static void quoted(int promise, String section) {
        boolean[] held = new boolean[section.length()];
        for (String quote : Edge.quotesOf(promise)) {
            for (int from = section.indexOf(quote); from >= 0; from = section.indexOf(quote, from + 1)) {
                for (int i = from; i < from + quote.length(); i++) {
                    held[i] = true;
                }
            }
        }
        StringBuilder open = new StringBuilder();
        for (int i = 0; i < held.length; i++) {
            open.append(held[i] ? '|' : section.charAt(i));
        }
        for (String words : open.toString().split("\\|+")) {
            hold(words.matches("[\\s.,;:()]*"), "promise " + promise + ", '" + words.trim() + "' is held by a test");
        }
    }

    // ---- the face

    /** The calls of "The public face", in their order; each must be a public method of the class, and no other. */
    private static List<String> face() {
        Matcher block = BLOCK.matcher(Edge.section(Edge.TERMS));
        hold(block.find(), "there is a public face");
        String code = block.group(1);
        String constants = "BAD = " + MilestonesOn.BAD + ", FULL = " + MilestonesOn.FULL + ", FINDING = "
            + MilestonesOn.FINDING + ", STATE = " + MilestonesOn.STATE + ", SPENT = " + MilestonesOn.SPENT + ", NONE = "
            + MilestonesOn.NONE + ";";
        hold(code.startsWith("public final class MilestonesOn { public static final int " + constants
            + " public MilestonesOn();"), "the constants are " + constants);
        Set<String> due = new TreeSet<>();
        List<String> names = new ArrayList<>();
        Matcher calls = CALL.matcher(code);
        while (calls.find()) {
            due.add(calls.group().replaceAll("(int|long) \\w+([,)])", "$1$2").replaceAll("public |;", ""));
            names.add(calls.group(1));
        }
        Set<String> there = new TreeSet<>();
        for (Method m : MilestonesOn.class.getDeclaredMethods()) {
            if (Modifier.isPublic(m.getModifiers())) {
                List<String> types = new ArrayList<>();
                for (Class<?> type : m.getParameterTypes()) types.add(type.getName());
                there.add(m.getReturnType() + " " + m.getName() + "(" + String.join(", ", types) + ")");
            }
        }
        hold(there.equals(due), "the class has the face's calls: " + there + ", due " + due);
        return names;
    }

    /** The calls stand in the source in the document's order, below the headings that the document tells. */
    private static void headings(List<String> face) throws Exception {
        String source = Files.readString(SOURCE);
        Matcher headings = HEADING.matcher(Edge.section(Edge.TERMS));
        List<String> below = new ArrayList<>();
        int place = 0;
        while (headings.find()) {
            place = source.indexOf("// " + headings.group(2), place);
            hold(place >= 0, "the source says " + headings.group(2));
            int next = source.indexOf("// ----", Math.max(place, 0) + 1);
            for (String call : headings.group(1).replace("`", "").split(", ")) {
                below.add(call);
                place = place < 0 ? place : source.indexOf(" " + call + "(", place);
                hold(place >= 0 && place < next, call + "() stands below " + headings.group(2));
            }
        }
        hold(below.equals(face), "each call stands below one heading: " + below);
    }

    /** Promise 1 is the constructor, each other one a call of the face, in its order. */
    private static void promisesNamed(List<String> face) {
        hold(face.size() == PROMISES - 1, "a promise for each call");
        hold(Edge.section(1).startsWith("A new object `MilestonesOn()`: "), "promise 1 is a new object");
        for (int i = 0; i < face.size(); i++) {
            String name = face.get(i);
            String section = Edge.section(i + 2);
            hold(section.matches(name + " `(int|long) " + name + "\\([^)]*\\)`: .*"),
                "promise " + (i + 2) + " is " + name);
        }
    }
}
