import java.lang.reflect.Method;
import java.util.ArrayList;
import java.util.LinkedHashMap;
import java.util.List;
import java.util.Map;
import java.util.Random;

/** Holds the class against PlainModel in runs of calls by fixed seeds, ordinary and wrong ones mixed. */
public final class ModelTest {
    private static final int RUNS = 1000, CALLS = 512, BIG_EVERY = 25;
    private static final String[] DEAR = {"fewest", "way", "all", "best", "nearest", "brings"};
    private static final int[] ODD = {-1, 0, 1, 2, 3, 4, 5, 6, 7, 9, 10, -9, 59, 60, 61, -2, 100,
        Integer.MAX_VALUE, Integer.MIN_VALUE};

    /** A letter or the highest figure that fits, for each parameter. */
    private static final Map<String, String> PARAMETERS = Map.ofEntries(
        Map.entry("row", "rz"), Map.entry("lay", "rzv"), Map.entry("at", "rz"), Map.entry("tear", "r"),
        Map.entry("copy", "rzrzz"), Map.entry("mean", "r"), Map.entry("text", "tz"), Map.entry("put", "tzv"),
        Map.entry("fault", "t"), Map.entry("road", "t"), Map.entry("stone", "k3"), Map.entry("walker", "w3"),
        Map.entry("mark", "w5"), Map.entry("law", "2"), Map.entry("walk", "w"), Map.entry("pays", "w"),
        Map.entry("undo", "u"), Map.entry("walks", "r"), Map.entry("where", "r"), Map.entry("keep", "2"),
        Map.entry("on", "2"), Map.entry("sees", "p"), Map.entry("may", "r"), Map.entry("standings", "3p"),
        Map.entry("look", "3"), Map.entry("way", "r"), Map.entry("brings", "kp"), Map.entry("earn", "4"),
        Map.entry("moved", "r"), Map.entry("who", "r"), Map.entry("odds", "kq4"), Map.entry("years", "ys"),
        Map.entry("count", "8"), Map.entry("findings", "5"));

    private static final Map<String, Method> REAL = methodsOf(MilestonesOn.class);
    private static final Map<String, Method> PLAIN = methodsOf(PlainModel.class);
    private static int wrong = 0;
    private static long compared = 0;

    private static Map<String, Method> methodsOf(Class<?> type) {
        Map<String, Method> all = new LinkedHashMap<>();
        List<Method> sorted = new ArrayList<>(List.of(type.getDeclaredMethods()));
        sorted.removeIf(m -> !java.lang.reflect.Modifier.isPublic(m.getModifiers()));
        sorted.sort((a, b) -> a.getName().compareTo(b.getName()));
        sorted.forEach(m -> all.put(m.getName(), m));
        return all;
    }

    private final Random random;
    private final MilestonesOn real = new MilestonesOn();
    private final PlainModel plain = new PlainModel();
    private final List<String> trace = new ArrayList<>();
    private final int run;
    private int calls = 0;

    private ModelTest(int run) {
        this.run = run;
        random = new Random(7919L * run + 1);
    }

    public static void main(String[] args) throws Exception {
        for (int run = 0; run < RUNS && wrong == 0; run++) {
            new ModelTest(run).go(run % BIG_EVERY == 0);
        }
        System.out.println(compared + " calls compared");
        System.out.println(wrong == 0 ? "the class answers as the model" : "the class and the model differ");
        if (wrong != 0) System.exit(1);
    }

    private void go(boolean big) throws Exception {
        int dear = big ? 6 : 60;
        List<String> names = new ArrayList<>(REAL.keySet());
        if (random.nextInt(8) > 0) {
            writeRoad(0, roadText(big), random.nextInt(10) == 0);
            call("road", 0);
        }
        while (calls < CALLS - 70 && wrong == 0) {
            int what = random.nextInt(20);
            if (what == 0 && !big && random.nextBoolean()) {
                writeRoad(random.nextInt(4), roadText(false), random.nextInt(3) == 0);
                for (int t = 0; t < 4; t++) call("fault", t);
                call("road", random.nextInt(4));
            } else if (what < 6) {
                call("walk", fitting('w'));
            } else if (what == 6) {
                aimAndAsk();
            } else if (what == 7) {
                layWalks();
            } else if (what == 9 && random.nextInt(4) == 0) {
                call("road", 0);
            } else if (what == 10 && dear > 0) {
                dear -= 3;
                call("fewest");
                call("way", random.nextInt(6));
                call("best");
            } else if (what == 8) {
                askMay();
            } else {
                String name = names.get(random.nextInt(names.size()));
                if (List.of(DEAR).contains(name) && dear-- <= 0) continue;
                call(name, argumentsFor(REAL.get(name)));
            }
        }
        call("digest");
    }

    /** Mostly numbers that fit each parameter, now and then any others. */
    private int[] argumentsFor(Method m) {
        String kinds = PARAMETERS.getOrDefault(m.getName(), "");
        int[] out = new int[m.getParameterCount()];
        for (int i = 0; i < out.length; i++) {
            int spoiled = random.nextInt(40);
            out[i] = spoiled == 0 ? random.nextInt() : spoiled < 6 ? ODD[random.nextInt(ODD.length)]
                : fitting(kinds.charAt(i));
        }
        return out;
    }

    private int fitting(char kind) {
        switch (kind) {
            case 'r': return random.nextInt(6);
            case 't': return random.nextInt(4);
            case 'k': return random.nextInt(Math.max(1, plain.at.size()));
            case 'p': return random.nextInt(Math.max(1, plain.plan.posts()));
            case 'q': return random.nextInt(4) == 0 ? -9 : random.nextInt(Math.max(1, plain.plan.posts()));
            case 'w': return random.nextInt(Math.max(1, plain.plan.walkers().size()));
            case 'z': return random.nextInt(random.nextInt(6) == 0 ? 61 : 8);
            case 'u': return random.nextInt(plain.done.size() + 1);
            case 'v': return random.nextInt(random.nextBoolean() ? 6 : 400) - 3;
            case 'y': return 1 + random.nextInt(200);
            case 's': return 1 + random.nextInt(Integer.MAX_VALUE - 1);
            default: return random.nextInt(kind - '0' + 1);
        }
    }

    /** A STANDING that a few walks lead to, undone; then asks for it. */
    private void aimAndAsk() throws Exception {
        int before = plain.done.size();
        int r = random.nextInt(6);
        for (int i = random.nextInt(5); i > 0; i--) {
            call("walk", fitting('w'));
        }
        call("where", r);
        if (random.nextInt(6) == 0) call("lay", r, random.nextInt(5), ODD[random.nextInt(ODD.length)]);
        call("undo", before);
        call("moved", r);
        call("who", r);
    }

    private void layWalks() throws Exception {
        int n = random.nextInt(random.nextInt(5) == 0 ? 61 : 6);
        int r = random.nextInt(6);
        call("row", r, n);
        for (int i = 0; i < n && i < 8; i++) {
            call("lay", r, random.nextInt(n), random.nextInt(random.nextInt(8) == 0 ? 6 : 3));
        }
        call("walks", r);
    }

    private void askMay() throws Exception {
        int n = random.nextInt(8);
        int r = random.nextInt(6);
        int from = random.nextInt(7);
        call("row", r, n);
        for (int i = 0; i < n; i++) {
            boolean right = random.nextInt(6) > 0 && plain.isPost(from + i);
            call("lay", r, i, right ? plain.seen(plain.at, from + i) : random.nextInt(11));
        }
        call("may", r);
    }

    private String roadText(boolean big) {
        int posts = big ? 5 + random.nextInt(3) : 2 + random.nextInt(6);
        boolean bare = random.nextInt(8) == 0;
        int stones = big ? 4 + random.nextInt(2) : bare ? random.nextInt(2) : 1 + random.nextInt(4);
        int walkers = big ? 4 + random.nextInt(2) : bare ? random.nextInt(2) : 2 + random.nextInt(4);
        StringBuilder text = new StringBuilder(blanks() + "r" + posts + blanks());
        List<Integer> numbers = new ArrayList<>(List.of(1, 2, 3, 4, 5, 6, 7, 8, 9));
        for (int i = 0; i < stones; i++) {
            int number = numbers.remove(random.nextInt(random.nextBoolean() ? numbers.size() : 1));
            text.append("m").append(number).append(random.nextInt(posts)).append(blanks());
        }
        String kinds = random.nextInt(3) == 0 ? "wcbltp" : "wwccbllp";
        for (int i = 0; i < walkers; i++) {
            int from = random.nextInt(posts);
            int to = (from + 1 + random.nextInt(posts - 1)) % posts;
            text.append(kinds.charAt(random.nextInt(kinds.length()))).append(from).append(to).append(blanks());
        }
        return text.toString();
    }

    private String blanks() {
        return " ".repeat(random.nextInt(4) == 0 ? 1 + random.nextInt(2) : 0);
    }

    private void writeRoad(int t, String road, boolean spoil) throws Exception {
        StringBuilder text = new StringBuilder(road);
        if (spoil && text.length() > 0) {
            int place = random.nextInt(text.length());
            switch (random.nextInt(4)) {
                case 0 -> text.setLength(place);
                case 1 -> text.setCharAt(place, "rmwcbltp0123456789 x".charAt(random.nextInt(20)));
                case 2 -> text.insert(place, "rmwcbltp0123456789 x".charAt(random.nextInt(20)));
                default -> text.append("m1", 0, 1 + random.nextInt(2)).append(random.nextInt(3));
            }
        }
        int n = Math.min(60, text.length());
        call("text", t, n);
        for (int i = 0; i < n; i++) {
            if (text.charAt(i) != ' ') call("put", t, i, text.charAt(i) + 256 * random.nextInt(2));
        }
    }

    private void call(String name, int... arguments) throws Exception {
        if (calls >= CALLS || wrong > 0) return;
        calls++;
        compared++;
        Object[] boxed = new Object[arguments.length];
        StringBuilder shown = new StringBuilder(name).append("(");
        for (int i = 0; i < arguments.length; i++) {
            boxed[i] = arguments[i];
            shown.append(i == 0 ? "" : ", ").append(arguments[i]);
        }
        long got = ((Number) REAL.get(name).invoke(real, boxed)).longValue();
        long want = ((Number) PLAIN.get(name).invoke(plain, boxed)).longValue();
        trace.add(shown + ") -> " + got);
        boolean same = got == want && real.asked() == plain.asked() && real.upper() == plain.upper()
            && real.lower() == plain.lower() && real.finding() == plain.finding()
            && real.digest() == plain.digest();
        for (int f = 1; f <= 5; f++) same = same && real.findings(f) == plain.findings(f);
        if (!same) {
            wrong++;
            System.out.println("run " + run + ", due " + want + ", asked " + plain.asked() + " not " + real.asked());
            trace.subList(Math.max(0, trace.size() - 60), trace.size()).forEach(System.out::println);
        }
    }
}
