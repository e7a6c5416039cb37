import java.util.Arrays;

/** Milestones that walkers carry on along a road; ../shared/DOC.md tells what each call promises. */
public final class MilestonesOn {
    public static final int BAD = -1, FULL = -2, FINDING = -3, STATE = -4, SPENT = -6, NONE = -9;

    private static final int NOTHING = 1, BEYOND = 2, UNLIKE = 3, NOUGHT = 4, SIZE = 5;
    private static final int ROWS = 6, TEXTS = 4, LONGEST = 60, KEEPS = 3, MOST_WALKS = 60, LAWS = 3;
    private static final int BLANK = 32, BYTE_SHIFT = 1000;
    private static final int MOST_YEARS = 200;
    private static final long LOT_TIMES = 48271L, LOT_MODULO = 2147483647L;

    private final Row[] rows = new Row[ROWS];
    private final Row[] texts = new Row[TEXTS];
    private final Trip[] trips = new Trip[MOST_WALKS];
    private final int[] keptStandings = new int[KEEPS];
    private final int[] keptLaws = new int[KEEPS];
    private final int[] answered = new int[SIZE + 1];
    private final Trip trial;
    private final Search search;
    private Road road;
    private int standing = 0;
    private int law = 0;
    private int done = 0;
    private int told = 0;
    private long upper = 0;
    private long lower = 1;
    private int latest = 0;

    public MilestonesOn() {
        road = new Road();
        trial = new Trip(road);
        search = new Search(road);
        for (int i = 0; i < ROWS; i++) {
            rows[i] = new Row();
        }
        for (int i = 0; i < TEXTS; i++) {
            texts[i] = new Row();
        }
        for (int i = 0; i < MOST_WALKS; i++) {
            trips[i] = new Trip(road);
        }
        Arrays.fill(keptLaws, NONE);
    }

    // ---- 1 rows, texts, roads

    public int row(int r, int n) {
        if (!isBelow(r, ROWS) || n > LONGEST) {
            return BAD;
        }
        if (n < 0) {
            return found(SIZE);
        }
        rows[r].begin(n, 0);
        return n;
    }

    public int lay(int r, int i, int v) {
        int refused = refusePlace(rows, r, i);
        if (refused != 0) {
            return refused;
        }
        told = rows[r].get(i);
        rows[r].set(i, v);
        return 1;
    }

    public int at(int r, int i) {
        int refused = refusePlace(rows, r, i);
        if (refused != 0) {
            return refused;
        }
        told = rows[r].get(i);
        return 1;
    }

    public int tear(int r) {
        int refused = refuseMissing(rows, r);
        if (refused != 0) {
            return refused;
        }
        rows[r].remove();
        return 1;
    }

    public int copy(int r, int i, int to, int j, int n) {
        if (!isBelow(r, ROWS) || !isBelow(to, ROWS)) {
            return BAD;
        }
        if (n < 0) {
            return found(SIZE);
        }
        if (rows[r].isMissing() || rows[to].isMissing()) {
            return found(NOTHING);
        }
        if (!rows[r].hasPart(i, n) || !rows[to].hasPart(j, n)) {
            return found(BEYOND);
        }
        System.arraycopy(rows[r].places, i, rows[to].places, j, n);
        return 1;
    }

    public int mean(int r) {
        int refused = refuseMissing(rows, r);
        if (refused != 0) {
            return refused;
        }
        Row one = rows[r];
        if (one.size == 0) {
            return found(NOUGHT);
        }
        long sum = 0;
        for (int i = 0; i < one.size; i++) {
            sum += one.get(i);
        }
        told = (int) (sum / one.size);
        return 1;
    }

    public int text(int t, int n) {
        if (!isBelow(t, TEXTS) || n > LONGEST) {
            return BAD;
        }
        if (n < 0) {
            return found(SIZE);
        }
        texts[t].begin(n, BLANK);
        return n;
    }

    public int put(int t, int i, int v) {
        int refused = refusePlace(texts, t, i);
        if (refused != 0) {
            return refused;
        }
        int before = texts[t].get(i);
        texts[t].set(i, (byte) v);
        return before + BYTE_SHIFT;
    }

    public int fault(int t) {
        int refused = refuseMissing(texts, t);
        if (refused != 0) {
            return refused;
        }
        return new Reader(texts[t]).read();
    }

    public int road(int t) {
        int refused = refuseMissing(texts, t);
        if (refused != 0) {
            return refused;
        }
        Reader reader = new Reader(texts[t]);
        if (reader.read() != NONE) {
            return STATE;
        }
        road = reader.road;
        standing = road.start;
        law = 0;
        done = 0;
        Arrays.fill(keptLaws, NONE);
        return road.stones;
    }

    public int stone(int k, int what) {
        if (!isBelow(k, road.stones) || !isBelow(what, 4)) {
            return BAD;
        }
        told = ofStone(k, what);
        return 1;
    }

    public int walker(int w, int what) {
        if (!isBelow(w, road.walkers) || !isBelow(what, 4)) {
            return BAD;
        }
        told = ofWalker(w, what);
        return 1;
    }

    public int mark(int w, int kind) {
        Walker one = road.walkerAt(w);
        if (one == null || kind < 1 || kind > Walker.PILGRIM) {
            return BAD;
        }
        trial.begin(road, standing, law);
        int tells = one.tell(kind, trial);
        return tells == Walker.OTHER ? found(UNLIKE) : tells;
    }

    public int law(int v) {
        if (!isBelow(v, LAWS)) {
            return BAD;
        }
        int before = law;
        law = v;
        return before;
    }

    // ---- 2 walks

    public int walk(int w) {
        if (!isBelow(w, road.walkers)) {
            return BAD;
        }
        if (done >= MOST_WALKS) {
            return FULL;
        }
        return doWalk(w);
    }

    public int pays(int w) {
        if (!isBelow(w, road.walkers)) {
            return BAD;
        }
        trial.begin(road, standing, law);
        trial.send(w);
        told = road.farFromHome(trial.standing);
        return trial.pay;
    }

    public int undo(int n) {
        if (n < 0 || n > done) {
            return BAD;
        }
        int undone = done - n;
        if (isBelow(n, done)) {
            standing = trips[n].before;
        }
        done = n;
        return undone;
    }

    public int walks(int r) {
        int refused = refuseMissing(rows, r);
        if (refused != 0) {
            return refused;
        }
        Row one = rows[r];
        for (int i = 0; i < one.size; i++) {
            if (!isBelow(one.get(i), road.walkers)) {
                return found(UNLIKE);
            }
        }
        if (done + one.size > MOST_WALKS) {
            return FULL;
        }
        int pay = 0;
        for (int i = 0; i < one.size; i++) {
            pay += doWalk(one.get(i));
        }
        return pay;
    }

    public int where(int r) {
        if (!isBelow(r, ROWS)) {
            return BAD;
        }
        rows[r].begin(road.stones, 0);
        for (int k = 0; k < road.stones; k++) {
            rows[r].set(k, Road.tellPost(standing, k));
        }
        return road.lostOf(standing);
    }

    public int apart() {
        told = road.homeOf(standing);
        return road.farFromHome(standing);
    }

    public int keep(int k) {
        if (!isBelow(k, KEEPS)) {
            return BAD;
        }
        if (road.posts == 0) {
            return STATE;
        }
        keptStandings[k] = standing;
        keptLaws[k] = law;
        return done;
    }

    public int on(int k) {
        if (!isBelow(k, KEEPS)) {
            return BAD;
        }
        if (keptLaws[k] == NONE) {
            return found(NOTHING);
        }
        standing = keptStandings[k];
        law = keptLaws[k];
        done = 0;
        return 1;
    }

    // ---- 3 seeing

    public int sees(int p) {
        if (!isBelow(p, road.posts)) {
            return BAD;
        }
        told = road.heapAt(standing, p);
        return road.leastAt(standing, p);
    }

    public int may(int r) {
        int refused = refuseMissing(rows, r);
        if (refused != 0) {
            return refused;
        }
        Row seen = rows[r];
        if (seen.size == 0 || seen.size > road.posts) {
            return found(SIZE);
        }
        for (int i = 0; i < seen.size; i++) {
            if (!isBelow(seen.get(i), 10)) {
                return found(UNLIKE);
            }
        }
        int bits = 0;
        for (int p = 0; p + seen.size <= road.posts; p++) {
            if (isSeenFrom(seen, p)) {
                bits |= 1 << p;
            }
        }
        return bits;
    }

    public int standings(int n, int p) {
        if (n < 0 || n > 3 || !isBelow(p, road.posts)) {
            return BAD;
        }
        search.from(road, standing, law);
        int unlike = search.gatherEnds(n);
        int alike = 0;
        for (int i = 0; i < unlike; i++) {
            if (road.leastAt(search.endAt(i), p) == road.leastAt(standing, p)) {
                alike++;
            }
        }
        told = alike;
        return unlike;
    }

    public int look(int n) {
        if (n < 0 || n > 3) {
            return BAD;
        }
        if (road.posts == 0) {
            return STATE;
        }
        search.from(road, standing, law);
        search.gatherEnds(n);
        int first = 0;
        int fewestLeft = search.mostAlike(0);
        for (int p = 1; p < road.posts; p++) {
            int left = search.mostAlike(p);
            if (left < fewestLeft) {
                first = p;
                fewestLeft = left;
            }
        }
        told = fewestLeft;
        return first;
    }

    // ---- 4 bringing home (from as it is; it stays)

    public int fewest() {
        if (road.posts == 0) {
            return STATE;
        }
        search.from(road, standing, law);
        int end = search.firstHome();
        if (end < 0) {
            return NONE;
        }
        told = search.homesAsNear(end);
        return search.farTo(end);
    }

    public int way(int r) {
        if (!isBelow(r, ROWS)) {
            return BAD;
        }
        if (road.posts == 0) {
            return STATE;
        }
        search.from(road, standing, law);
        int end = search.firstHome();
        if (end < 0) {
            return NONE;
        }
        int n = search.farTo(end);
        if (n > LONGEST) {
            return SPENT;
        }
        rows[r].begin(n, 0);
        search.layWay(end, rows[r]);
        return n;
    }

    public int all() {
        search.from(road, standing, law);
        told = search.farthest();
        return search.reached();
    }

    public int best() {
        if (road.posts == 0) {
            return STATE;
        }
        int first = 0;
        int least = NONE;
        for (int v = 0; v < LAWS; v++) {
            search.from(road, standing, v);
            int end = search.firstHome();
            int n = end < 0 ? NONE : search.farTo(end);
            if (n != NONE && (least == NONE || n < least)) {
                first = v;
                least = n;
            }
        }
        told = least;
        return first;
    }

    public int nearest() {
        search.from(road, standing, law);
        int end = search.leastApart();
        told = search.farTo(end);
        return road.farFromHome(end);
    }

    public int brings(int k, int p) {
        if (!isBelow(k, road.stones) || !isBelow(p, road.posts)) {
            return BAD;
        }
        search.from(road, standing, law);
        int end = search.firstWith(k, p);
        return end < 0 ? NONE : search.farTo(end);
    }

    public int earn(int n) {
        if (n < 1 || n > 4) {
            return BAD;
        }
        if (road.walkers == 0) {
            return STATE;
        }
        search.from(road, standing, law);
        int pay = search.dearest(n);
        told = search.dearestRow;
        return pay;
    }

    // ---- 5 who moved it, odds

    public int moved(int r) {
        int refused = refuseStanding(r);
        if (refused != 0) {
            return refused;
        }
        search.from(road, standing, law);
        int n = search.fewestTo(standingOf(rows[r]));
        if (n >= 0) {
            told = search.rowsThere;
        }
        return n;
    }

    public int who(int r) {
        int refused = refuseStanding(r);
        if (refused != 0) {
            return refused;
        }
        search.from(road, standing, law);
        int n = search.fewestTo(standingOf(rows[r]));
        if (n <= 0) {
            return NONE;
        }
        told = search.inEvery;
        return search.beginners;
    }

    public int odds(int k, int p, int n) {
        if (!isBelow(k, road.stones) || n < 0 || n > 4 || (p != NONE && !isBelow(p, road.posts))) {
            return BAD;
        }
        if (road.walkers == 0 && n > 0) {
            return found(NOUGHT);
        }
        search.from(road, standing, law);
        int hits = search.rowsWith(k, p, n);
        tellFraction(hits, search.rowsOf(n));
        return 1;
    }

    public int years(int n, int seed) {
        if (n < 1 || n > MOST_YEARS || seed < 1 || seed >= LOT_MODULO) {
            return BAD;
        }
        if (road.walkers == 0) {
            return found(NOUGHT);
        }
        trial.begin(road, standing, law);
        long lot = seed;
        for (int i = 0; i < n; i++) {
            lot = LOT_TIMES * lot % LOT_MODULO;
            trial.send((int) (lot % road.walkers));
        }
        told = road.fullestPost(trial.standing);
        return road.farFromHome(trial.standing);
    }

    // ---- 6 what is told

    public int asked() {
        return told;
    }

    public long upper() {
        return upper;
    }

    public long lower() {
        return lower;
    }

    public int count(int what) {
        switch (what) {
            case 0: return road.posts;
            case 1: return road.stones;
            case 2: return road.lostOf(standing);
            case 3: return road.walkers;
            case 4: return done;
            case 5: return road.bothWays();
            case 6: return thereOf(rows);
            case 7: return thereOf(texts);
            case 8: return road.lameOnes();
            default: return BAD;
        }
    }

    public int finding() {
        return latest;
    }

    public int findings(int f) {
        return f < 1 || f > SIZE ? BAD : answered[f];
    }

    public long digest() {
        long h = 17;
        for (int what = 0; what <= 8; what++) {
            h = 31 * h + count(what);
        }
        h = 31 * h + law;
        for (int k = 0; k < road.stones; k++) {
            for (int what = 0; what < 4; what++) {
                h = 31 * h + ofStone(k, what);
            }
        }
        for (int w = 0; w < road.walkers; w++) {
            for (int what = 0; what < 4; what++) {
                h = 31 * h + ofWalker(w, what);
            }
        }
        for (int i = 0; i < done && i < MOST_WALKS; i++) {
            h = 31 * h + trips[i].by;
        }
        h = digestKept(h);
        h = digestRows(h, rows);
        return digestRows(h, texts);
    }

    // ---- what the calls share

    private static boolean isBelow(int i, int end) {
        return i >= 0 && i < end;
    }

    private int found(int f) {
        latest = f;
        answered[f]++;
        return FINDING;
    }

    private int ofStone(int k, int what) {
        switch (what) {
            case 0: return road.numbers[k];
            case 1: return Road.tellPost(standing, k);
            case 2: return road.homes[k];
            default: return allMoves(k);
        }
    }

    private int allMoves(int k) {
        int times = 0;
        for (int i = 0; i < done && i < MOST_WALKS; i++) {
            times += trips[i].timesMoved(k);
        }
        return times;
    }

    private int ofWalker(int w, int what) {
        Walker one = road.walkerAt(w);
        if (one == null) {
            return NONE;
        }
        switch (what) {
            case 0: return one.kind();
            case 1: return one.start;
            case 2: return one.end;
            default: return allPay(w);
        }
    }

    private int allPay(int w) {
        int pay = 0;
        for (int i = 0; i < done && i < MOST_WALKS; i++) {
            if (trips[i].by == w) {
                pay += trips[i].pay;
            }
        }
        return pay;
    }

    private int doWalk(int w) {
        if (!isBelow(done, MOST_WALKS)) {
            return 0;
        }
        Trip trip = trips[done];
        trip.begin(road, standing, law);
        trip.send(w);
        standing = trip.standing;
        done++;
        return trip.pay;
    }

    private boolean isSeenFrom(Row seen, int p) {
        for (int i = 0; i < seen.size; i++) {
            if (road.leastAt(standing, p + i) != seen.get(i)) {
                return false;
            }
        }
        return true;
    }

    /** 0 if a ROW (or a TEXT) is there, else what the call is refused with. */
    private int refuseMissing(Row[] some, int r) {
        if (!isBelow(r, some.length)) {
            return BAD;
        }
        return some[r].isMissing() ? found(NOTHING) : 0;
    }

    /** 0 if there is such a place of a ROW (or a TEXT), else what the call is refused with. */
    private int refusePlace(Row[] some, int r, int i) {
        int refused = refuseMissing(some, r);
        if (refused != 0) {
            return refused;
        }
        return some[r].has(i) ? 0 : found(BEYOND);
    }

    /** 0 if a ROW tells a STANDING of this ROAD, else what the call is refused with. */
    private int refuseStanding(int r) {
        int refused = refuseMissing(rows, r);
        if (refused != 0) {
            return refused;
        }
        Row one = rows[r];
        if (one.size != road.stones) {
            return found(SIZE);
        }
        for (int k = 0; k < one.size; k++) {
            if (one.get(k) != NONE && !isBelow(one.get(k), road.posts)) {
                return found(UNLIKE);
            }
        }
        return 0;
    }

    private int standingOf(Row one) {
        int packed = 0;
        for (int k = 0; k < road.stones; k++) {
            packed = Road.withPost(packed, k, one.get(k) == NONE ? Road.LOST : one.get(k));
        }
        return packed;
    }

    private void tellFraction(int above, int below) {
        int a = above;
        int b = below;
        for (int turns = 0; b != 0 && turns < 100; turns++) {
            int rest = a % b;
            a = b;
            b = rest;
        }
        if (a > 0) {
            upper = above / a;
            lower = below / a;
        }
    }

    private static int thereOf(Row[] some) {
        int there = 0;
        for (int i = 0; i < some.length; i++) {
            if (!some[i].isMissing()) {
                there++;
            }
        }
        return there;
    }

    private long digestKept(long from) {
        long h = from;
        for (int i = 0; i < KEEPS; i++) {
            if (keptLaws[i] == NONE) {
                h = 31 * h - 1;
            } else {
                for (int k = 0; k < road.stones; k++) {
                    h = 31 * h + Road.tellPost(keptStandings[i], k);
                }
                h = 31 * h + keptLaws[i];
            }
        }
        return h;
    }

    private static long digestRows(long from, Row[] some) {
        long h = from;
        for (int r = 0; r < some.length; r++) {
            h = 31 * h + some[r].size;
            for (int i = 0; i < some[r].size; i++) {
                h = 31 * h + some[r].get(i);
            }
        }
        return h;
    }

    /** A ROW or a TEXT. Its places are made once, so that calls in long runs take no more room. */
    private static final class Row {
        static final int MISSING = -1;

        final int[] places = new int[LONGEST];
        int size = MISSING;

        boolean isMissing() {
            return size < 0;
        }

        boolean has(int i) {
            return i >= 0 && i < size;
        }

        boolean hasPart(int i, int n) {
            return i >= 0 && n >= 0 && i <= size && n <= size - i;
        }

        int get(int i) {
            return has(i) ? places[i] : 0;
        }

        void set(int i, int v) {
            if (has(i)) {
                places[i] = v;
            }
        }

        void begin(int n, int v) {
            size = Math.max(0, Math.min(n, LONGEST));
            Arrays.fill(places, v);
        }

        void remove() {
            size = MISSING;
        }
    }

    /** A road with its STONES and WALKERS; a STANDING is one int, three bits for each STONE's POST. */
    private static final class Road {
        static final int BITS = 3, MASK = 7, LOST = 7, SLOTS = 8, MOST = 5;
        static final int BEYOND_ANY = 7, LOST_APART = 10;

        final int[] numbers = new int[MOST];
        final int[] homes = new int[MOST];
        private final int[] waysHome = new int[MOST * SLOTS];
        private final Walker[] folk = new Walker[MOST];
        int posts = 0;
        int stones = 0;
        int walkers = 0;
        int start = 0;
        private int homeBits = 0;
        private int homeStanding = 0;

        static int postOf(int standing, int k) {
            return standing >>> BITS * k & MASK;
        }

        static int withPost(int standing, int k, int post) {
            return standing & ~(MASK << BITS * k) | post << BITS * k;
        }

        static int tellPost(int standing, int k) {
            int post = postOf(standing, k);
            return post == LOST ? NONE : post;
        }

        void addStone(int number, int post) {
            if (stones >= MOST) {
                return;
            }
            int home = number <= posts ? number - 1 : NONE;
            numbers[stones] = number;
            homes[stones] = home;
            start = withPost(start, stones, post);
            for (int p = 0; p < SLOTS; p++) {
                waysHome[SLOTS * stones + p] = wayBetween(p, home);
            }
            if (home != NONE) {
                homeBits = withPost(homeBits, stones, MASK);
                homeStanding = withPost(homeStanding, stones, home);
            }
            stones++;
        }

        /** A STONE without HOME counts as farther than any that has one. */
        private static int wayBetween(int post, int home) {
            return home == NONE ? BEYOND_ANY : Math.abs(post - home);
        }

        void addWalker(Walker one) {
            if (walkers < MOST) {
                folk[walkers] = one;
                walkers++;
            }
        }

        Walker walkerAt(int w) {
            return w >= 0 && w < walkers ? folk[w] : null;
        }

        boolean hasNumber(int number) {
            for (int k = 0; k < stones; k++) {
                if (numbers[k] == number) {
                    return true;
                }
            }
            return false;
        }

        /** Of the STONES at one POST that with the least turn is taken. */
        int turnOf(int k, int post, int law) {
            switch (law) {
                case 0: return numbers[k];
                case 1: return -numbers[k];
                default: return numbers[k] - 10 * waysHome[SLOTS * k + post];
            }
        }

        boolean isAllHome(int standing) {
            return (standing & homeBits) == homeStanding;
        }

        int farFromHome(int standing) {
            int far = 0;
            for (int k = 0; k < stones; k++) {
                int post = postOf(standing, k);
                if (post == LOST) {
                    far += LOST_APART;
                } else if (homes[k] != NONE) {
                    far += waysHome[SLOTS * k + post];
                }
            }
            return far;
        }

        int homeOf(int standing) {
            int home = 0;
            for (int k = 0; k < stones; k++) {
                if (postOf(standing, k) == homes[k]) {
                    home++;
                }
            }
            return home;
        }

        int lostOf(int standing) {
            return heapAt(standing, LOST);
        }

        int heapAt(int standing, int post) {
            int many = 0;
            for (int k = 0; k < stones; k++) {
                if (postOf(standing, k) == post) {
                    many++;
                }
            }
            return many;
        }

        int leastAt(int standing, int post) {
            int least = 0;
            for (int k = 0; k < stones; k++) {
                if (postOf(standing, k) == post && (least == 0 || numbers[k] < least)) {
                    least = numbers[k];
                }
            }
            return least;
        }

        int fullestPost(int standing) {
            int fullest = 0;
            for (int p = 1; p < posts; p++) {
                if (heapAt(standing, p) > heapAt(standing, fullest)) {
                    fullest = p;
                }
            }
            return fullest;
        }

        int bothWays() {
            int many = 0;
            for (int w = 0; w < walkers; w++) {
                if (folk[w] instanceof Both) {
                    many++;
                }
            }
            return many;
        }

        int lameOnes() {
            int many = 0;
            for (int w = 0; w < walkers; w++) {
                if (folk[w] instanceof Lame) {
                    many++;
                }
            }
            return many;
        }
    }

    /** Reads a TEXT as a ROAD, sign by sign; where it stops is the FAULT. */
    private static final class Reader {
        static final int END = 256;

        final Road road = new Road();
        private final Row text;
        private int place = 0;

        Reader(Row text) {
            this.text = text;
        }

        /** The FAULT, or NONE; the ROAD is whole only then. */
        int read() {
            skipBlanks();
            if (!readPosts()) {
                return place;
            }
            skipBlanks();
            for (int items = 0; sign() != END && items < LONGEST; items++) {
                boolean fits = sign() == 'm' ? readStone() : readWalker();
                if (!fits) {
                    return place;
                }
                skipBlanks();
            }
            return NONE;
        }

        private int sign() {
            return text.has(place) ? text.get(place) : END;
        }

        private void skipBlanks() {
            while (place < text.size && text.get(place) == BLANK) {
                place++;
            }
        }

        private boolean isFigure(int low, int high) {
            return sign() >= '0' + low && sign() <= '0' + high;
        }

        private int takeFigure() {
            int figure = sign() - '0';
            place++;
            return figure;
        }

        private boolean readPosts() {
            if (sign() != 'r') {
                return false;
            }
            place++;
            if (!isFigure(2, 7)) {
                return false;
            }
            road.posts = takeFigure();
            return true;
        }

        private boolean readStone() {
            if (road.walkers > 0 || road.stones >= Road.MOST) {
                return false;
            }
            place++;
            if (!isFigure(1, 9) || road.hasNumber(sign() - '0')) {
                return false;
            }
            int number = takeFigure();
            if (!isFigure(0, road.posts - 1)) {
                return false;
            }
            road.addStone(number, takeFigure());
            return true;
        }

        private boolean readWalker() {
            int letter = sign();
            if (!isWalker(letter) || road.walkers >= Road.MOST) {
                return false;
            }
            place++;
            if (!isFigure(0, road.posts - 1)) {
                return false;
            }
            int start = takeFigure();
            if (!isFigure(0, road.posts - 1) || sign() - '0' == start) {
                return false;
            }
            road.addWalker(make(letter, start, takeFigure()));
            return true;
        }

        private static boolean isWalker(int letter) {
            return letter == 'w' || letter == 'c' || letter == 'b' || letter == 'l' || letter == 't' || letter == 'p';
        }

        private static Walker make(int letter, int start, int end) {
            switch (letter) {
                case 'c': return new Cart(start, end);
                case 'b': return new Both(start, end);
                case 'l': return new Lame(start, end);
                case 't': return new Thief(start, end);
                case 'p': return new Pilgrim(start, end);
                default: return new Walker(start, end);
            }
        }
    }

    /** One WALK, or some in a row, from a STANDING on: what stands where then, and what it paid. */
    private static final class Trip {
        private Road road;
        int law = 0;
        int before = 0;
        int standing = 0;
        int by = 0;
        int pay = 0;
        int carried = 0;
        private int moves = 0;

        Trip(Road road) {
            this.road = road;
        }

        void begin(Road road, int standing, int law) {
            this.road = road;
            this.law = law;
            this.before = standing;
            this.standing = standing;
            pay = 0;
            carried = 0;
            moves = 0;
        }

        void send(int w) {
            Walker one = road.walkerAt(w);
            if (one != null) {
                by = w;
                one.go(this);
            }
        }

        /** Not by send(): this is the deepest way of calls, and they may go eight deep. */
        void sendRow(int[] row, int n) {
            for (int i = 0; i < n && i < row.length; i++) {
                Walker one = road.walkerAt(row[i]);
                if (one != null) {
                    one.go(this);
                }
            }
        }

        int timesMoved(int k) {
            return Road.postOf(moves, k);
        }

        int postNow(int k) {
            return Road.postOf(standing, k);
        }

        int numberOf(int k) {
            return k >= 0 && k < road.stones ? road.numbers[k] : NONE;
        }

        /** How many STONES are where they were. */
        int unmoved() {
            int same = 0;
            for (int k = 0; k < road.stones; k++) {
                if (Road.postOf(before, k) == Road.postOf(standing, k)) {
                    same++;
                }
            }
            return same;
        }

        /**
         * The STONE taken on the way from POST a to the one ahead of POST b (-1: there is none).
         * LOST is a number above all POSTS, so that a LOST STONE lies on no way.
         */
        int firstOn(int a, int b, int law) {
            int first = -1;
            int least = 0;
            int length = Math.abs(b - a);
            for (int k = 0; k < road.stones; k++) {
                int post = Road.postOf(standing, k);
                int step = a < b ? post - a : a - post;
                if (step >= 0 && step < length) {
                    int turn = 100 * step + road.turnOf(k, post, law);
                    if (first < 0 || turn < least) {
                        first = k;
                        least = turn;
                    }
                }
            }
            return first;
        }

        void carry(int k, int post) {
            if (k < 0 || k >= road.stones) {
                return;
            }
            standing = Road.withPost(standing, k, post);
            pay += road.numbers[k];
            moves += 1 << Road.BITS * k;
            carried++;
        }
    }

    /** Walks from POST start to POST end, and takes one STONE to the next POST. */
    private static class Walker {
        static final int CART = 1, BOTH = 2, LAME = 3, THIEF = 4, PILGRIM = 5;
        static final int OTHER = -100;

        final int start;
        final int end;

        Walker(int start, int end) {
            this.start = start;
            this.end = end;
        }

        int kind() {
            return 0;
        }

        void go(Trip trip) {
            goOneWay(trip, start, end);
        }

        /** What it tells as one of a KIND; OTHER: it is none of that KIND. */
        int tell(int kind, Trip trip) {
            return OTHER;
        }

        /** To where a STONE is taken from a POST, on the way to POST b. */
        int goalFrom(int post, int b) {
            return nextTo(post, b);
        }

        final void goOneWay(Trip trip, int a, int b) {
            int k = trip.firstOn(a, b, trip.law);
            if (k >= 0) {
                trip.carry(k, goalFrom(trip.postNow(k), b));
            }
        }

        static int nextTo(int post, int b) {
            return post < b ? post + 1 : post - 1;
        }
    }

    private static final class Cart extends Walker {
        static final int LOAD = 3;

        Cart(int start, int end) {
            super(start, end);
        }

        int kind() {
            return CART;
        }

        void go(Trip trip) {
            int k = trip.firstOn(start, end, trip.law);
            int post = trip.postNow(Math.max(k, 0));
            int next = nextTo(post, end);
            for (int n = 0; n < LOAD && k >= 0; n++) {
                trip.carry(k, next);
                k = trip.firstOn(post, next, trip.law);
            }
        }

        int tell(int kind, Trip trip) {
            if (kind != CART) {
                return super.tell(kind, trip);
            }
            go(trip);
            return trip.carried;
        }
    }

    private static class Both extends Walker {
        Both(int start, int end) {
            super(start, end);
        }

        int kind() {
            return BOTH;
        }

        final void go(Trip trip) {
            goOneWay(trip, start, end);
            goOneWay(trip, end, start);
        }

        int tell(int kind, Trip trip) {
            if (kind != BOTH) {
                return super.tell(kind, trip);
            }
            go(trip);
            return trip.unmoved();
        }
    }

    private static class Lame extends Walker {
        Lame(int start, int end) {
            super(start, end);
        }

        int kind() {
            return LAME;
        }

        void go(Trip trip) {
            goOneWay(trip, start, nextTo(start, end));
        }

        int tell(int kind, Trip trip) {
            return kind == LAME ? nextTo(start, end) : super.tell(kind, trip);
        }
    }

    private static final class Thief extends Lame {
        static final int THIEFS_LAW = 1;

        Thief(int start, int end) {
            super(start, end);
        }

        int kind() {
            return THIEF;
        }

        void go(Trip trip) {
            trip.carry(chosen(trip), Road.LOST);
        }

        int tell(int kind, Trip trip) {
            return kind == THIEF ? trip.numberOf(chosen(trip)) : super.tell(kind, trip);
        }

        private int chosen(Trip trip) {
            return trip.firstOn(start, nextTo(start, end), THIEFS_LAW);
        }
    }

    private static final class Pilgrim extends Both {
        Pilgrim(int start, int end) {
            super(start, end);
        }

        int kind() {
            return PILGRIM;
        }

        int goalFrom(int post, int b) {
            return b;
        }

        int tell(int kind, Trip trip) {
            return kind == PILGRIM ? 2 * Math.abs(end - start) : super.tell(kind, trip);
        }
    }

    /** All that WALKS lead to from one STANDING: by any WALKS, and by rows of a few. */
    private static final class Search {
        static final int LONGEST_ROW = 4, MOST_ENDS = 125, MOST_NUMBERS = 10, FIGURES = 5;

        private final Trip trip;
        private final int[] tried = new int[LONGEST_ROW];
        private final int[] ends = new int[MOST_ENDS];
        private final int[] alike = new int[MOST_NUMBERS];
        private Road road;
        private int start = 0;
        private int law = 0;
        private boolean explored = false;
        private int[] far = new int[0];
        private int[] links = new int[0];
        private int[] queue = new int[0];
        private int reached = 0;
        private int gathered = 0;
        int dearestRow = 0;
        int rowsThere = 0;
        int beginners = 0;
        int inEvery = 0;

        Search(Road road) {
            this.road = road;
            trip = new Trip(road);
        }

        /** What was explored from the same STANDING by the same LAW is used again: it costs most. */
        void from(Road road, int start, int law) {
            if (this.road != road || this.start != start || this.law != law) {
                this.road = road;
                this.start = start;
                this.law = law;
                explored = false;
            }
        }

        // ---- by any WALKS

        /**
         * Level by level, WALKERS in their order: so STANDINGS are queued by how far they are, and
         * those alike by their first row, which the links tell.
         */
        private void explore() {
            if (explored) {
                return;
            }
            clearRoom();
            explored = true;
            reached = 0;
            reach(start, 0, 0);
            for (int head = 0; head < reached && head < queue.length; head++) {
                int here = queue[head];
                for (int w = 0; w < road.walkers; w++) {
                    trip.begin(road, here, law);
                    trip.send(w);
                    reach(trip.standing, farTo(here) + 1, here << Road.BITS | w);
                }
            }
        }

        private void clearRoom() {
            int size = 1 << Road.BITS * road.stones;
            if (far.length < size) {
                far = new int[size];
                links = new int[size];
                queue = new int[size];
            }
            Arrays.fill(far, NONE);
        }

        private void reach(int standing, int steps, int link) {
            if (isIn(standing) && far[standing] == NONE && reached < queue.length) {
                far[standing] = steps;
                links[standing] = link;
                queue[reached] = standing;
                reached++;
            }
        }

        private boolean isIn(int standing) {
            return standing >= 0 && standing < far.length;
        }

        int farTo(int standing) {
            return isIn(standing) ? far[standing] : NONE;
        }

        int reached() {
            explore();
            return reached;
        }

        int farthest() {
            explore();
            return reached > 0 && reached <= queue.length ? farTo(queue[reached - 1]) : 0;
        }

        /** The first STANDING that has all STONES at HOME, or -1. */
        int firstHome() {
            explore();
            for (int i = 0; i < reached && i < queue.length; i++) {
                if (road.isAllHome(queue[i])) {
                    return queue[i];
                }
            }
            return -1;
        }

        int homesAsNear(int end) {
            int many = 0;
            for (int i = 0; i < reached && i < queue.length; i++) {
                if (farTo(queue[i]) == farTo(end) && road.isAllHome(queue[i])) {
                    many++;
                }
            }
            return many;
        }

        /** The first STANDING with a STONE at a POST, or -1. */
        int firstWith(int k, int post) {
            explore();
            for (int i = 0; i < reached && i < queue.length; i++) {
                if (Road.postOf(queue[i], k) == post) {
                    return queue[i];
                }
            }
            return -1;
        }

        int leastApart() {
            explore();
            int end = start;
            int least = road.farFromHome(start);
            for (int i = 0; i < reached && i < queue.length; i++) {
                int apart = road.farFromHome(queue[i]);
                if (apart < least) {
                    least = apart;
                    end = queue[i];
                }
            }
            return end;
        }

        /** The WALKERS on the way to a STANDING, from the last one back to the first. */
        void layWay(int end, Row into) {
            int here = end;
            for (int i = into.size - 1; i >= 0 && isIn(here); i--) {
                into.set(i, links[here] & Road.MASK);
                here = links[here] >> Road.BITS;
            }
        }

        // ---- by rows of a few WALKS

        int rowsOf(int n) {
            int rows = 1;
            for (int i = 0; i < n; i++) {
                rows *= road.walkers;
            }
            return rows;
        }

        private void firstRow() {
            Arrays.fill(tried, 0);
        }

        /** The row that comes next by WALKERS' numbers: the last one turns the fastest. */
        private void nextRow(int n) {
            for (int i = Math.min(n, LONGEST_ROW) - 1; i >= 0; i--) {
                tried[i]++;
                if (tried[i] < road.walkers) {
                    return;
                }
                tried[i] = 0;
            }
        }

        int gatherEnds(int n) {
            gathered = 0;
            int rows = rowsOf(n);
            firstRow();
            for (int i = 0; i < rows; i++) {
                trip.begin(road, start, law);
                trip.sendRow(tried, n);
                gather(trip.standing);
                nextRow(n);
            }
            return gathered;
        }

        private void gather(int standing) {
            for (int i = 0; i < gathered && i < MOST_ENDS; i++) {
                if (ends[i] == standing) {
                    return;
                }
            }
            if (gathered < MOST_ENDS) {
                ends[gathered] = standing;
                gathered++;
            }
        }

        int endAt(int i) {
            return i >= 0 && i < gathered && i < MOST_ENDS ? ends[i] : start;
        }

        /** The most gathered STANDINGS that look the same at a POST. */
        int mostAlike(int post) {
            int most = 0;
            Arrays.fill(alike, 0);
            for (int i = 0; i < gathered; i++) {
                int seen = road.leastAt(endAt(i), post);
                if (seen >= 0 && seen < MOST_NUMBERS) {
                    alike[seen]++;
                    most = Math.max(most, alike[seen]);
                }
            }
            return most;
        }

        /** The greatest PAY; the first row that pays it is kept in dearestRow. */
        int dearest(int n) {
            int most = -1;
            int rows = rowsOf(n);
            firstRow();
            for (int i = 0; i < rows; i++) {
                trip.begin(road, start, law);
                trip.sendRow(tried, n);
                if (trip.pay > most) {
                    most = trip.pay;
                    dearestRow = figuresOf(n);
                }
                nextRow(n);
            }
            return most;
        }

        private int figuresOf(int n) {
            int figures = 0;
            for (int i = 0; i < n && i < LONGEST_ROW; i++) {
                figures = FIGURES * figures + tried[i];
            }
            return figures;
        }

        /** The fewest WALKS to a STANDING, or NONE; what their rows share is kept beside. */
        int fewestTo(int end) {
            for (int n = 0; n <= LONGEST_ROW; n++) {
                compareRowsTo(end, n);
                if (rowsThere > 0) {
                    return n;
                }
            }
            return NONE;
        }

        private void compareRowsTo(int end, int n) {
            rowsThere = 0;
            beginners = 0;
            inEvery = ~0;
            int rows = rowsOf(n);
            firstRow();
            for (int i = 0; i < rows; i++) {
                trip.begin(road, start, law);
                trip.sendRow(tried, n);
                if (trip.standing == end) {
                    rowsThere++;
                    beginners |= 1 << tried[0];
                    inEvery &= walkersOf(n);
                }
                nextRow(n);
            }
        }

        private int walkersOf(int n) {
            int bits = 0;
            for (int i = 0; i < n && i < LONGEST_ROW; i++) {
                bits |= 1 << tried[i];
            }
            return bits;
        }

        /** How many rows of n WALKS leave a STONE at a POST (NONE: LOST). */
        int rowsWith(int k, int post, int n) {
            int hits = 0;
            int rows = rowsOf(n);
            firstRow();
            for (int i = 0; i < rows; i++) {
                trip.begin(road, start, law);
                trip.sendRow(tried, n);
                if (Road.tellPost(trip.standing, k) == post) {
                    hits++;
                }
                nextRow(n);
            }
            return hits;
        }
    }
}
