import java.io.IOException;
import java.nio.file.Files;
import java.nio.file.Path;
import java.util.Arrays;
import java.util.Map;
import java.util.Set;
import java.util.TreeMap;
import java.util.TreeSet;
import java.util.function.Consumer;
import java.util.function.ToLongFunction;
import java.util.regex.Matcher;
import java.util.regex.Pattern;

/**
 * One sentence of the document and the calls at its edges. Each call stands on an object of its own, made by the
 * given calls; the sentence is looked up in the document, so that no test can name one that isn't there.
 */
final class Edge {
    static final int BAD = -1, FULL = -2, FINDING = -3, STATE = -4, SPENT = -6, NONE = -9;
    static final int NOTHING = 1, BEYOND = 2, UNLIKE = 3, NOUGHT = 4, SIZE = 5;
    static final int MAX = Integer.MAX_VALUE, MIN = Integer.MIN_VALUE;

    /** For sentences ahead of all promises: "What it is" and "Terms". */
    static final int TERMS = 0;

    private static final Path DOCUMENT = Path.of("../shared/DOC.md");
    private static final Map<Integer, String> ANSWERS =
        Map.of(BAD, "BAD", FULL, "FULL", STATE, "STATE", SPENT, "SPENT", NONE, "NONE");
    private static final String[] FINDINGS = {"", "NOTHING", "BEYOND", "UNLIKE", "NOUGHT", "SIZE"};
    private static final Pattern REFUSALS =
        Pattern.compile("\\b(BAD|FULL|STATE|SPENT|NOTHING|BEYOND|UNLIKE|NOUGHT|SIZE)\\b|(NONE)(?=: (?:never|none|there))");
    private static final int TOLD = -77;

    private static final Map<Integer, Set<String>> seen = new TreeMap<>();
    private static final Map<Integer, Set<String>> quoted = new TreeMap<>();
    private static String[] sections = null;
    private static int held = 0;
    private static int wrong = 0;

    private final int promise;
    private final String sentence;
    private final Consumer<MilestonesOn> given;

    private Edge(int promise, String sentence, Consumer<MilestonesOn> given) {
        this.promise = promise;
        this.sentence = sentence;
        this.given = given;
    }

    /** A sentence (or its part) of a promise's own section, or of the terms. */
    static Edge of(int promise, String sentence) {
        if (isDocumentThere() && !section(promise).contains(sentence)) {
            fail(promise, sentence, "is not what the document says there");
        }
        quoted.computeIfAbsent(promise, p -> new TreeSet<>()).add(sentence);
        return new Edge(promise, sentence, x -> { });
    }

    /** A sentence of the terms that a promise's call keeps. */
    static Edge ofTerms(int promise, String sentence) {
        Edge.of(TERMS, sentence);
        return new Edge(promise, sentence, x -> { });
    }

    Edge given(Consumer<MilestonesOn> more) {
        return new Edge(promise, sentence, given.andThen(more));
    }

    Edge road(String text) {
        return text(0, text).given(x -> {
            if (x.road(0) < 0) {
                fail(promise, sentence, "has no road: " + text);
            }
        });
    }

    Edge text(int t, String text) {
        return given(x -> Due.write(x, t, text));
    }

    Edge row(int r, int... values) {
        return given(x -> Due.lay(x, r, values));
    }

    /** The WALKERS walk, one behind the other. */
    Edge walked(int... walkers) {
        return given(x -> Arrays.stream(walkers).forEach(x::walk));
    }

    /** What a call answers on an object as it is given, to hold others against. */
    static long answers(Edge one, ToLongFunction<MilestonesOn> call) {
        return call.applyAsLong(one.fresh());
    }

    // ---- what a call is held against

    Edge takes(long answer, ToLongFunction<MilestonesOn> call) {
        same("answer", call.applyAsLong(fresh()), answer);
        note("taken");
        return this;
    }

    /** A call that asks: it tells also by asked(), all stays, and asked once more it answers the same. */
    Edge asks(long answer, int asked, ToLongFunction<MilestonesOn> call) {
        MilestonesOn x = fresh();
        long before = x.digest();
        same("answer", call.applyAsLong(x), answer);
        same("asked()", x.asked(), asked);
        same("answer once more", call.applyAsLong(x), answer);
        same("asked() once more", x.asked(), asked);
        same("digest()", x.digest(), before);
        note("taken");
        return this;
    }

    /** A call that asks and tells by its answer alone. */
    Edge stays(long answer, ToLongFunction<MilestonesOn> call) {
        return asks(answer, TOLD, call);
    }

    /** A call that changes something, and tells by asked() too. */
    Edge tells(long answer, int asked, ToLongFunction<MilestonesOn> call) {
        MilestonesOn x = fresh();
        same("answer", call.applyAsLong(x), answer);
        same("asked()", x.asked(), asked);
        note("taken");
        return this;
    }

    Edge fraction(long upper, long lower, ToLongFunction<MilestonesOn> call) {
        MilestonesOn x = fresh();
        long before = x.digest();
        same("answer", call.applyAsLong(x), 1);
        same("upper()", x.upper(), upper);
        same("lower()", x.lower(), lower);
        same("asked()", x.asked(), TOLD);
        same("digest()", x.digest(), before);
        note("taken");
        return this;
    }

    /** What a ROW holds behind a call. */
    Edge lays(long answer, int r, int[] places, ToLongFunction<MilestonesOn> call) {
        MilestonesOn x = fresh();
        same("answer", call.applyAsLong(x), answer);
        for (int i = 0; i < places.length; i++) {
            same("at(" + r + ", " + i + ")", x.at(r, i), 1);
            same("at(" + r + ", " + i + "), asked()", x.asked(), places[i]);
        }
        same("at(" + r + ", " + places.length + ")", x.at(r, places.length), FINDING);
        same("finding()", x.finding(), BEYOND);
        note("taken");
        return this;
    }

    /** A refusal that is no FINDING, or NONE: nothing changes. */
    Edge refuses(int answer, ToLongFunction<MilestonesOn> call) {
        MilestonesOn x = fresh();
        long[] before = state(x);
        same("answer", call.applyAsLong(x), answer);
        unchanged(before, state(x));
        note(ANSWERS.get(answer));
        return this;
    }

    /** A FINDING: nothing changes but finding() and how often it was answered. */
    Edge finds(int finding, ToLongFunction<MilestonesOn> call) {
        MilestonesOn x = fresh();
        long[] before = state(x);
        same("answer", call.applyAsLong(x), FINDING);
        before[4] = finding;
        before[4 + finding]++;
        unchanged(before, state(x));
        note(FINDINGS[finding]);
        return this;
    }

    // ---- how it is held

    private MilestonesOn fresh() {
        MilestonesOn x = new MilestonesOn();
        given.accept(x);
        tellSomething(x);
        return x;
    }

    /** So that asked() and the fraction are not those of a new object, where a refused call leaves them. */
    private static void tellSomething(MilestonesOn x) {
        x.odds(0, 0, 1);
        for (int r = 5; r >= 0; r--) {
            if (x.copy(r, 0, r, 0, 0) == FINDING) {
                x.row(r, 1);
                x.lay(r, 0, TOLD);
                x.at(r, 0);
                x.tear(r);
                return;
            }
        }
    }

    private static long[] state(MilestonesOn x) {
        return new long[] {x.digest(), x.asked(), x.upper(), x.lower(), x.finding(),
            x.findings(1), x.findings(2), x.findings(3), x.findings(4), x.findings(5)};
    }

    private void unchanged(long[] before, long[] behind) {
        String[] names = {"digest()", "asked()", "upper()", "lower()", "finding()",
            "findings(1)", "findings(2)", "findings(3)", "findings(4)", "findings(5)"};
        for (int i = 0; i < names.length; i++) {
            same(names[i] + " behind a refusal", behind[i], before[i]);
        }
    }

    private void same(String what, long got, long want) {
        held++;
        if (got != want) {
            fail(promise, sentence, what + " is " + got + ", due is " + want);
        }
    }

    private static void fail(int promise, String sentence, String what) {
        wrong++;
        String line = StackWalker.getInstance().walk(frames -> frames
            .filter(f -> f.getFileName().startsWith("Edges")).findFirst()
            .map(f -> f.getFileName() + ":" + f.getLineNumber()).orElse("?"));
        System.out.println("promise " + promise + ", '" + sentence + "', " + line + ": " + what);
    }

    private void note(String kind) {
        seen.computeIfAbsent(promise, p -> new TreeSet<>()).add(kind);
    }

    // ---- the document

    /** All that was quoted of a promise's section so far. */
    static Set<String> quotesOf(int promise) {
        return quoted.getOrDefault(promise, Set.of());
    }

    /** Without the document the calls are held all the same; only the quotes can't be looked up. */
    static boolean isDocumentThere() {
        if (sections == null) {
            sections = read();
        }
        return sections.length > 0;
    }

    /** A promise's section, its blanks made one each; 0 is all that comes ahead of promise 1. */
    static String section(int promise) {
        return isDocumentThere() && promise < sections.length ? sections[promise] : "";
    }

    private static String[] read() {
        try {
            String[] parts = Files.readString(DOCUMENT).split("## Promise \\d+: |## Not promised");
            for (int i = 0; i < parts.length; i++) {
                parts[i] = parts[i].replaceAll("\\s+", " ");
            }
            return parts;
        } catch (IOException gone) {
            System.out.println("there is no " + DOCUMENT);
            return new String[0];
        }
    }

    /** Each refusal that a promise names must have been answered in one of its tests, and one call taken. */
    static void finish(String name, int first, int last) {
        for (int promise = first; promise <= last; promise++) {
            Set<String> due = new TreeSet<>(Set.of("taken"));
            Matcher words = REFUSALS.matcher(section(promise).replaceAll("(BAD|STATE|FULL) (last|behind)", ""));
            while (words.find()) {
                due.add(words.group());
            }
            due.removeAll(seen.getOrDefault(promise, Set.of()));
            if (!due.isEmpty()) {
                wrong++;
                System.out.println("promise " + promise + " has no test of " + due);
            }
        }
        System.out.println(name + ": " + held + " answers held, " + wrong + " wrong");
        if (wrong != 0) {
            System.exit(1);
        }
    }
}
