import java.util.ArrayDeque;
import java.util.ArrayList;
import java.util.Arrays;
import java.util.Comparator;
import java.util.HashMap;
import java.util.HashSet;
import java.util.LinkedHashMap;
import java.util.List;
import java.util.Map;
import java.util.Set;

/**
 * The document once more, written as literally and as unlike the class as it goes: STANDINGS are lists,
 * a WALK goes POST by POST, every search is a map. ModelTest holds the class against it.
 */
public final class PlainModel {
    static final int BAD = -1, FULL = -2, FINDING = -3, STATE = -4, SPENT = -6, NONE = -9;
    static final int NOTHING = 1, BEYOND = 2, UNLIKE = 3, NOUGHT = 4, SIZE = 5;
    static final String LETTERS = "wcbltp";

    record Stone(int number, int post) { }
    record Walker(int kind, int from, int to) { }
    record Plan(int fault, int posts, List<Stone> stones, List<Walker> walkers) { }
    record Done(int walker, List<Integer> before, int pay, List<Integer> movedStones) { }
    record Kept(List<Integer> at, int law) { }

    final int[][] rows = new int[6][];
    final byte[][] texts = new byte[4][];
    final Kept[] kept = new Kept[3];
    final int[] findingCounts = new int[6];
    Plan plan = new Plan(0, 0, List.of(), List.of());
    List<Integer> at = List.of();
    final List<Done> done = new ArrayList<>();
    int law, asked, finding;
    long upper, lower = 1;

    // ---- walking

    /** One walk: where all are then; what was moved, in its order, is added to moved. */
    List<Integer> walked(List<Integer> from, int by, int w, List<Integer> moved) {
        Walker x = plan.walkers().get(w);
        List<Integer> now = new ArrayList<>(from);
        switch (x.kind()) {
            case 0 -> leg(now, x.from(), x.to(), by, 1, false, moved);
            case 1 -> leg(now, x.from(), x.to(), by, 3, false, moved);
            case 2, 5 -> {
                leg(now, x.from(), x.to(), by, 1, x.kind() == 5, moved);
                leg(now, x.to(), x.from(), by, 1, x.kind() == 5, moved);
            }
            case 3 -> leg(now, x.from(), x.from() + Integer.signum(x.to() - x.from()), by, 1, false, moved);
            default -> {
                List<Integer> there = choice(now, x.from(), 1);
                if (!there.isEmpty()) {
                    now.set(there.get(0), NONE);
                    moved.add(there.get(0));
                }
            }
        }
        return now;
    }

    void leg(List<Integer> now, int a, int b, int by, int load, boolean toEnd, List<Integer> moved) {
        int dir = Integer.signum(b - a);
        for (int post = a; post != b; post += dir) {
            List<Integer> there = choice(now, post, by);
            if (!there.isEmpty()) {
                for (int i = 0; i < load && i < there.size(); i++) {
                    now.set(there.get(i), toEnd ? b : post + dir);
                    moved.add(there.get(i));
                }
                return;
            }
        }
    }

    /** All STONES at a POST, the one that the LAW takes first ahead. */
    List<Integer> choice(List<Integer> now, int post, int by) {
        List<Integer> there = new ArrayList<>();
        for (int k = 0; k < now.size(); k++) {
            if (now.get(k) == post) {
                there.add(k);
            }
        }
        Comparator<Integer> order = Comparator.comparing(k -> number(k));
        if (by == 1) {
            order = order.reversed();
        }
        if (by == 2) {
            Comparator<Integer> homeless = Comparator.comparing(k -> home(k) == NONE ? 0 : 1);
            Comparator<Integer> farthest = Comparator.comparing(k -> home(k) == NONE ? 0 : -Math.abs(post - home(k)));
            order = homeless.thenComparing(farthest).thenComparing(order);
        }
        there.sort(order);
        return there;
    }

    int number(int k) {
        return plan.stones().get(k).number();
    }

    int home(int k) {
        return number(k) - 1 < plan.posts() ? number(k) - 1 : NONE;
    }

    int payOf(List<Integer> movedStones) {
        return movedStones.stream().mapToInt(this::number).sum();
    }

    int apartOf(List<Integer> now) {
        int sum = 0;
        for (int k = 0; k < now.size(); k++) {
            if (now.get(k) == NONE) {
                sum += 10;
            } else if (home(k) != NONE) {
                sum += Math.abs(now.get(k) - home(k));
            }
        }
        return sum;
    }

    boolean isHome(List<Integer> now) {
        for (int k = 0; k < now.size(); k++) {
            if (home(k) != NONE && now.get(k) != home(k)) {
                return false;
            }
        }
        return true;
    }

    int seen(List<Integer> now, int p) {
        return now.contains(p) ? number(choice(now, p, 0).get(0)) : 0;
    }

    boolean isPost(int p) {
        return p >= 0 && p < plan.posts();
    }

    boolean isWalker(int w) {
        return w >= 0 && w < plan.walkers().size();
    }

    boolean isRow(int r) {
        return r >= 0 && r < 6;
    }

    int found(int f) {
        finding = f;
        findingCounts[f]++;
        return FINDING;
    }

    int tell(int v) {
        asked = v;
        return 1;
    }

    // ---- 1

    public int row(int r, int n) {
        if (!isRow(r) || n > 60) return BAD;
        if (n < 0) return found(SIZE);
        rows[r] = new int[n];
        return n;
    }

    public int lay(int r, int i, int v) {
        if (!isRow(r)) return BAD;
        if (rows[r] == null) return found(NOTHING);
        if (i < 0 || i >= rows[r].length) return found(BEYOND);
        tell(rows[r][i]);
        rows[r][i] = v;
        return 1;
    }

    public int at(int r, int i) {
        if (!isRow(r)) return BAD;
        if (rows[r] == null) return found(NOTHING);
        if (i < 0 || i >= rows[r].length) return found(BEYOND);
        return tell(rows[r][i]);
    }

    public int tear(int r) {
        if (!isRow(r)) return BAD;
        if (rows[r] == null) return found(NOTHING);
        rows[r] = null;
        return 1;
    }

    public int copy(int r, int i, int to, int j, int n) {
        if (!isRow(r) || !isRow(to)) return BAD;
        if (n < 0) return found(SIZE);
        if (rows[r] == null || rows[to] == null) return found(NOTHING);
        if (i < 0 || j < 0 || (long) i + n > rows[r].length || (long) j + n > rows[to].length) return found(BEYOND);
        int[] taken = Arrays.copyOfRange(rows[r], i, i + n);
        for (int x = 0; x < n; x++) {
            rows[to][j + x] = taken[x];
        }
        return 1;
    }

    public int mean(int r) {
        if (!isRow(r)) return BAD;
        if (rows[r] == null) return found(NOTHING);
        if (rows[r].length == 0) return found(NOUGHT);
        return tell((int) (Arrays.stream(rows[r]).asLongStream().sum() / rows[r].length));
    }

    public int text(int t, int n) {
        if (t < 0 || t > 3 || n > 60) return BAD;
        if (n < 0) return found(SIZE);
        texts[t] = new byte[n];
        Arrays.fill(texts[t], (byte) 32);
        return n;
    }

    public int put(int t, int i, int v) {
        if (t < 0 || t > 3) return BAD;
        if (texts[t] == null) return found(NOTHING);
        if (i < 0 || i >= texts[t].length) return found(BEYOND);
        int was = texts[t][i];
        texts[t][i] = (byte) v;
        return was + 1000;
    }

    /** Reads with a fixed list of what may stand at the next place, in place of a reader by items. */
    Plan read(byte[] text) {
        int posts = 0;
        List<Stone> stones = new ArrayList<>();
        List<Walker> walkers = new ArrayList<>();
        int part = 0;
        char letter = ' ';
        int first = 0;
        for (int i = 0; i < text.length; i++) {
            int c = text[i];
            int figure = c - '0';
            if (part == 0 && c == ' ') {
                continue;
            }
            if (part == 0) {
                boolean fits;
                if (posts == 0) {
                    fits = c == 'r';
                } else if (c == 'm') {
                    fits = walkers.isEmpty() && stones.size() < 5;
                } else {
                    fits = c > 0 && LETTERS.indexOf(c) >= 0 && walkers.size() < 5;
                }
                if (!fits) return new Plan(i, 0, stones, walkers);
                letter = (char) c;
                part = 1;
            } else if (letter == 'r') {
                if (figure < 2 || figure > 7) return new Plan(i, 0, stones, walkers);
                posts = figure;
                part = 0;
            } else if (part == 1) {
                boolean fits = letter == 'm'
                    ? figure >= 1 && figure <= 9 && stones.stream().noneMatch(s -> s.number() == figure)
                    : figure >= 0 && figure < posts;
                if (!fits) return new Plan(i, 0, stones, walkers);
                first = figure;
                part = 2;
            } else {
                if (figure < 0 || figure >= posts || (letter != 'm' && figure == first)) {
                    return new Plan(i, 0, stones, walkers);
                }
                if (letter == 'm') {
                    stones.add(new Stone(first, figure));
                } else {
                    walkers.add(new Walker(LETTERS.indexOf(letter), first, figure));
                }
                part = 0;
            }
        }
        return new Plan(part != 0 || posts == 0 ? text.length : NONE, posts, stones, walkers);
    }

    public int fault(int t) {
        if (t < 0 || t > 3) return BAD;
        if (texts[t] == null) return found(NOTHING);
        return read(texts[t]).fault();
    }

    public int road(int t) {
        if (t < 0 || t > 3) return BAD;
        if (texts[t] == null) return found(NOTHING);
        Plan next = read(texts[t]);
        if (next.fault() != NONE) return STATE;
        plan = next;
        at = next.stones().stream().map(Stone::post).toList();
        law = 0;
        done.clear();
        Arrays.fill(kept, null);
        return at.size();
    }

    int stoneValue(int k, int what) {
        return switch (what) {
            case 0 -> number(k);
            case 1 -> at.get(k);
            case 2 -> home(k);
            default -> (int) done.stream().flatMap(d -> d.movedStones().stream()).filter(m -> m == k).count();
        };
    }

    public int stone(int k, int what) {
        return k < 0 || k >= at.size() || what < 0 || what > 3 ? BAD : tell(stoneValue(k, what));
    }

    int walkerValue(int w, int what) {
        Walker x = plan.walkers().get(w);
        return switch (what) {
            case 0 -> x.kind();
            case 1 -> x.from();
            case 2 -> x.to();
            default -> done.stream().filter(d -> d.walker() == w).mapToInt(Done::pay).sum();
        };
    }

    public int walker(int w, int what) {
        return !isWalker(w) || what < 0 || what > 3 ? BAD : tell(walkerValue(w, what));
    }

    public int mark(int w, int kind) {
        if (!isWalker(w) || kind < 1 || kind > 5) return BAD;
        Walker x = plan.walkers().get(w);
        boolean is = x.kind() == kind || (x.kind() == 4 && kind == 3) || (x.kind() == 5 && kind == 2);
        if (!is) return found(UNLIKE);
        List<Integer> moved = new ArrayList<>();
        List<Integer> then = walked(at, law, w, moved);
        switch (kind) {
            case 1:
                return moved.size();
            case 2:
                int same = 0;
                for (int k = 0; k < at.size(); k++) {
                    same += at.get(k).equals(then.get(k)) ? 1 : 0;
                }
                return same;
            case 3:
                return x.from() < x.to() ? x.from() + 1 : x.from() - 1;
            case 4:
                return moved.isEmpty() ? NONE : number(moved.get(0));
            default:
                return Math.abs(x.from() - x.to()) * 2;
        }
    }

    public int law(int v) {
        if (v < 0 || v > 2) return BAD;
        int was = law;
        law = v;
        return was;
    }

    // ---- 2

    public int walk(int w) {
        if (!isWalker(w)) return BAD;
        if (done.size() == 60) return FULL;
        List<Integer> moved = new ArrayList<>();
        List<Integer> then = walked(at, law, w, moved);
        done.add(new Done(w, at, payOf(moved), moved));
        at = then;
        return payOf(moved);
    }

    public int pays(int w) {
        if (!isWalker(w)) return BAD;
        List<Integer> moved = new ArrayList<>();
        tell(apartOf(walked(at, law, w, moved)));
        return payOf(moved);
    }

    public int undo(int n) {
        if (n < 0 || n > done.size()) return BAD;
        int undone = 0;
        while (done.size() > n) {
            at = done.remove(done.size() - 1).before();
            undone++;
        }
        return undone;
    }

    public int walks(int r) {
        if (!isRow(r)) return BAD;
        if (rows[r] == null) return found(NOTHING);
        if (!Arrays.stream(rows[r]).allMatch(this::isWalker)) return found(UNLIKE);
        if (rows[r].length + done.size() > 60) return FULL;
        return Arrays.stream(rows[r]).map(this::walk).sum();
    }

    public int where(int r) {
        if (!isRow(r)) return BAD;
        rows[r] = at.stream().mapToInt(p -> p).toArray();
        return count(2);
    }

    public int apart() {
        int home = 0;
        for (int k = 0; k < at.size(); k++) {
            home += at.get(k) != NONE && at.get(k) == home(k) ? 1 : 0;
        }
        tell(home);
        return apartOf(at);
    }

    public int keep(int k) {
        if (k < 0 || k > 2) return BAD;
        if (plan.posts() == 0) return STATE;
        kept[k] = new Kept(at, law);
        return done.size();
    }

    public int on(int k) {
        if (k < 0 || k > 2) return BAD;
        if (kept[k] == null) return found(NOTHING);
        at = kept[k].at();
        law = kept[k].law();
        done.clear();
        return 1;
    }

    // ---- 3

    public int sees(int p) {
        if (!isPost(p)) return BAD;
        tell((int) at.stream().filter(q -> q == p).count());
        return seen(at, p);
    }

    public int may(int r) {
        if (!isRow(r)) return BAD;
        if (rows[r] == null) return found(NOTHING);
        int n = rows[r].length;
        if (n < 1 || n > plan.posts()) return found(SIZE);
        for (int v : rows[r]) {
            if (v < 0 || v > 9) return found(UNLIKE);
        }
        int bits = 0;
        for (int p = 0; p < plan.posts(); p++) {
            boolean fits = true;
            for (int i = 0; i < n; i++) {
                fits = fits && isPost(p + i) && seen(at, p + i) == rows[r][i];
            }
            bits += fits ? 1 << p : 0;
        }
        return bits;
    }

    Set<List<Integer>> behind(int n) {
        Set<List<Integer>> level = new HashSet<>(List.of(at));
        for (int i = 0; i < n; i++) {
            Set<List<Integer>> next = new HashSet<>();
            for (List<Integer> one : level) {
                for (int w = 0; w < plan.walkers().size(); w++) {
                    next.add(walked(one, law, w, new ArrayList<>()));
                }
            }
            level = next;
        }
        return level;
    }

    public int standings(int n, int p) {
        if (n < 0 || n > 3 || !isPost(p)) return BAD;
        Set<List<Integer>> level = behind(n);
        tell((int) level.stream().filter(one -> seen(one, p) == seen(at, p)).count());
        return level.size();
    }

    public int look(int n) {
        if (n < 0 || n > 3) return BAD;
        if (plan.posts() == 0) return STATE;
        Set<List<Integer>> level = behind(n);
        int best = -1;
        int least = Integer.MAX_VALUE;
        for (int p = 0; p < plan.posts(); p++) {
            Map<Integer, Integer> heaps = new HashMap<>();
            for (List<Integer> one : level) {
                heaps.merge(seen(one, p), 1, Integer::sum);
            }
            int most = heaps.values().stream().mapToInt(v -> v).max().orElse(0);
            if (most < least) {
                least = most;
                best = p;
            }
        }
        tell(least);
        return best;
    }

    // ---- 4

    Map<List<Integer>, Integer> distances(int by) {
        Map<List<Integer>, Integer> far = new LinkedHashMap<>();
        ArrayDeque<List<Integer>> open = new ArrayDeque<>();
        far.put(at, 0);
        open.add(at);
        while (!open.isEmpty()) {
            List<Integer> one = open.remove();
            for (int w = 0; w < plan.walkers().size(); w++) {
                List<Integer> then = walked(one, by, w, new ArrayList<>());
                if (!far.containsKey(then)) {
                    far.put(then, far.get(one) + 1);
                    open.add(then);
                }
            }
        }
        return far;
    }

    int fewestBy(int by) {
        return distances(by).entrySet().stream().filter(e -> isHome(e.getKey()))
            .mapToInt(Map.Entry::getValue).min().orElse(NONE);
    }

    public int fewest() {
        if (plan.posts() == 0) return STATE;
        int n = fewestBy(law);
        if (n != NONE) {
            tell((int) distances(law).entrySet().stream()
                .filter(e -> e.getValue() == n && isHome(e.getKey())).count());
        }
        return n;
    }

    /** How many WALKS each STANDING is from being home, found backwards until nothing gets nearer. */
    Map<List<Integer>, Integer> waysHome() {
        Map<List<Integer>, List<List<Integer>>> before = new HashMap<>();
        for (List<Integer> one : distances(law).keySet()) {
            for (int w = 0; w < plan.walkers().size(); w++) {
                before.computeIfAbsent(walked(one, law, w, new ArrayList<>()), x -> new ArrayList<>()).add(one);
            }
        }
        Map<List<Integer>, Integer> home = new HashMap<>();
        ArrayDeque<List<Integer>> open = new ArrayDeque<>();
        for (List<Integer> one : distances(law).keySet()) {
            if (isHome(one)) {
                home.put(one, 0);
                open.add(one);
            }
        }
        while (!open.isEmpty()) {
            List<Integer> one = open.remove();
            for (List<Integer> ahead : before.getOrDefault(one, List.of())) {
                if (home.putIfAbsent(ahead, home.get(one) + 1) == null) {
                    open.add(ahead);
                }
            }
        }
        return home;
    }

    public int way(int r) {
        if (!isRow(r)) return BAD;
        if (plan.posts() == 0) return STATE;
        int n = fewestBy(law);
        if (n == NONE) return NONE;
        if (n > 60) return SPENT;
        Map<List<Integer>, Integer> home = waysHome();
        int[] row = new int[n];
        List<Integer> here = at;
        for (int i = 0; i < n; i++) {
            for (int w = 0; w < plan.walkers().size(); w++) {
                List<Integer> then = walked(here, law, w, new ArrayList<>());
                if (home.getOrDefault(then, -1) == n - i - 1) {
                    row[i] = w;
                    here = then;
                    break;
                }
            }
        }
        rows[r] = row;
        return n;
    }

    public int all() {
        Map<List<Integer>, Integer> far = distances(law);
        tell(far.values().stream().mapToInt(v -> v).max().orElse(0));
        return far.size();
    }

    public int best() {
        if (plan.posts() == 0) return STATE;
        int best = 0;
        for (int v = 1; v < 3; v++) {
            int now = fewestBy(v);
            int was = fewestBy(best);
            if (now != NONE && (was == NONE || now < was)) {
                best = v;
            }
        }
        tell(fewestBy(best));
        return best;
    }

    public int nearest() {
        Map<List<Integer>, Integer> far = distances(law);
        int least = far.keySet().stream().mapToInt(this::apartOf).min().orElse(0);
        tell(far.entrySet().stream().filter(e -> apartOf(e.getKey()) == least)
            .mapToInt(Map.Entry::getValue).min().orElse(0));
        return least;
    }

    public int brings(int k, int p) {
        if (k < 0 || k >= at.size() || !isPost(p)) return BAD;
        return distances(law).entrySet().stream().filter(e -> e.getKey().get(k) == p)
            .mapToInt(Map.Entry::getValue).min().orElse(NONE);
    }

    /** All rows of n WALKS, in their order. */
    List<List<Integer>> rowsOf(int n) {
        if (n == 0) return List.of(List.of());
        List<List<Integer>> out = new ArrayList<>();
        for (List<Integer> ahead : rowsOf(n - 1)) {
            for (int w = 0; w < plan.walkers().size(); w++) {
                List<Integer> one = new ArrayList<>(ahead);
                one.add(w);
                out.add(one);
            }
        }
        return out;
    }

    List<Integer> endOf(List<Integer> row, List<Integer> moved) {
        List<Integer> here = at;
        for (int w : row) {
            here = walked(here, law, w, moved);
        }
        return here;
    }

    public int earn(int n) {
        if (n < 1 || n > 4) return BAD;
        if (plan.walkers().isEmpty()) return STATE;
        int most = -1;
        for (List<Integer> row : rowsOf(n)) {
            List<Integer> moved = new ArrayList<>();
            endOf(row, moved);
            if (payOf(moved) > most) {
                most = payOf(moved);
                StringBuilder figures = new StringBuilder();
                row.forEach(figures::append);
                tell(Integer.parseInt(figures.toString(), 5));
            }
        }
        return most;
    }

    // ---- 5

    int refuse(int r) {
        if (!isRow(r)) return BAD;
        if (rows[r] == null) return found(NOTHING);
        if (rows[r].length != at.size()) return found(SIZE);
        for (int p : rows[r]) {
            if (p != NONE && !isPost(p)) return found(UNLIKE);
        }
        return 0;
    }

    List<List<Integer>> rowsTo(int r) {
        List<Integer> goal = Arrays.stream(rows[r]).boxed().toList();
        for (int n = 0; n <= 4; n++) {
            List<List<Integer>> fit = rowsOf(n).stream()
                .filter(row -> endOf(row, new ArrayList<>()).equals(goal)).toList();
            if (!fit.isEmpty()) return fit;
        }
        return List.of();
    }

    public int moved(int r) {
        int refused = refuse(r);
        if (refused != 0) return refused;
        List<List<Integer>> fit = rowsTo(r);
        if (fit.isEmpty()) return NONE;
        tell(fit.size());
        return fit.get(0).size();
    }

    public int who(int r) {
        int refused = refuse(r);
        if (refused != 0) return refused;
        List<List<Integer>> fit = rowsTo(r);
        if (fit.isEmpty() || fit.get(0).isEmpty()) return NONE;
        int begins = 0;
        int every = 0;
        for (int w = 0; w < plan.walkers().size(); w++) {
            int one = w;
            begins += fit.stream().anyMatch(row -> row.get(0) == one) ? 1 << w : 0;
            every += fit.stream().allMatch(row -> row.contains(one)) ? 1 << w : 0;
        }
        tell(every);
        return begins;
    }

    public int odds(int k, int p, int n) {
        if (k < 0 || k >= at.size() || n < 0 || n > 4 || (p != NONE && !isPost(p))) return BAD;
        if (n > 0 && plan.walkers().isEmpty()) return found(NOUGHT);
        List<List<Integer>> rows = rowsOf(n);
        long hits = rows.stream().filter(row -> endOf(row, new ArrayList<>()).get(k) == p).count();
        upper = hits;
        lower = rows.size();
        for (int d = 2; d <= lower; d++) {
            while (upper % d == 0 && lower % d == 0 && lower > 1) {
                upper /= d;
                lower /= d;
            }
        }
        return 1;
    }

    public int years(int n, int seed) {
        if (n < 1 || n > 200 || seed < 1 || seed > 2147483646) return BAD;
        if (plan.walkers().isEmpty()) return found(NOUGHT);
        List<Integer> here = at;
        java.math.BigInteger x = java.math.BigInteger.valueOf(seed);
        for (int i = 0; i < n; i++) {
            x = x.multiply(java.math.BigInteger.valueOf(48271)).mod(java.math.BigInteger.valueOf(2147483647));
            here = walked(here, law, x.intValue() % plan.walkers().size(), new ArrayList<>());
        }
        int best = 0;
        int most = 0;
        for (int p = 0; p < plan.posts(); p++) {
            int heap = 0;
            for (int q : here) {
                heap += q == p ? 1 : 0;
            }
            if (heap > most) {
                most = heap;
                best = p;
            }
        }
        tell(best);
        return apartOf(here);
    }

    // ---- 6

    public int asked() {
        return asked;
    }

    public long upper() {
        return upper;
    }

    public long lower() {
        return lower;
    }

    int kinds(int a, int b) {
        return (int) plan.walkers().stream().filter(x -> x.kind() == a || x.kind() == b).count();
    }

    public int count(int what) {
        return switch (what) {
            case 0 -> plan.posts();
            case 1 -> at.size();
            case 2 -> (int) at.stream().filter(p -> p == NONE).count();
            case 3 -> plan.walkers().size();
            case 4 -> done.size();
            case 5 -> kinds(2, 5);
            case 6 -> (int) Arrays.stream(rows).filter(r -> r != null).count();
            case 7 -> (int) Arrays.stream(texts).filter(t -> t != null).count();
            case 8 -> kinds(3, 4);
            default -> BAD;
        };
    }

    public int finding() {
        return finding;
    }

    public int findings(int f) {
        return f < 1 || f > 5 ? BAD : findingCounts[f];
    }

    public long digest() {
        List<Integer> all = new ArrayList<>();
        for (int what = 0; what <= 8; what++) all.add(count(what));
        all.add(law);
        for (int k = 0; k < at.size(); k++) {
            for (int what = 0; what < 4; what++) all.add(stoneValue(k, what));
        }
        for (int w = 0; w < plan.walkers().size(); w++) {
            for (int what = 0; what < 4; what++) all.add(walkerValue(w, what));
        }
        for (Done one : done) all.add(one.walker());
        for (Kept one : kept) {
            if (one == null) {
                all.add(-1);
            } else {
                all.addAll(one.at());
                all.add(one.law());
            }
        }
        for (int[] one : rows) {
            all.add(one == null ? -1 : one.length);
            if (one != null) for (int v : one) all.add(v);
        }
        for (byte[] one : texts) {
            all.add(one == null ? -1 : one.length);
            if (one != null) for (byte v : one) all.add((int) v);
        }
        long h = 17;
        for (int v : all) h = 31 * h + v;
        return h;
    }
}
