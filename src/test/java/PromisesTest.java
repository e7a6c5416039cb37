/** Each promise of the document by hand-made calls: ordinary ones, the edges it names, wrong ones. */
public final class PromisesTest {
    private static final int BAD = -1, FULL = -2, FINDING = -3, STATE = -4, SPENT = -6, NONE = -9;
    private static final int NOTHING = 1, BEYOND = 2, UNLIKE = 3, NOUGHT = 4, SIZE = 5;
    private static final int MAX = Integer.MAX_VALUE, MIN = Integer.MIN_VALUE;

    public static void main(String[] args) {
        newObject();
        row();
        lay();
        at();
        tear();
        copy();
        mean();
        text();
        put();
        fault();
        faultCounts();
        road();
        stone();
        walker();
        mark();
        law();
        lawTwo();
        walkOfWalker();
        walkOfCart();
        walkOfBoth();
        walkOfLameAndThief();
        walkOfPilgrim();
        walkFull();
        pays();
        undo();
        walks();
        where();
        apart();
        keepAndOn();
        sees();
        may();
        standings();
        look();
        fewest();
        way();
        waySpent();
        all();
        best();
        nearest();
        brings();
        earn();
        moved();
        who();
        odds();
        years();
        asked();
        fractions();
        count();
        findings();
        digest();
        Due.finish("PromisesTest");
    }

    // ---- 1: A new object
    private static void newObject() {
        MilestonesOn x = new MilestonesOn();
        for (int what = 0; what <= 8; what++) {
            Due.is("new, count(" + what + ")", x.count(what), 0);
        }
        for (int r = 0; r < 6; r++) {
            Due.is("new, at", x.at(r, 0), FINDING);
        }
        for (int t = 0; t < 4; t++) {
            Due.is("new, fault", x.fault(t), FINDING);
        }
        Due.is("new, findings", x.findings(NOTHING), 10);
        Due.is("new, law", x.law(0), 0);
        Due.is("new, asked", x.asked(), 0);
        Due.is("new, upper", x.upper(), 0);
        Due.is("new, lower", x.lower(), 1);
        Due.is("new, finding", new MilestonesOn().finding(), 0);
        MilestonesOn y = new MilestonesOn();
        Due.is("two objects", y.row(0, 3), 3);
        Due.is("two objects", new MilestonesOn().count(6), 0);
    }

    // ---- 2: row
    private static void row() {
        MilestonesOn x = new MilestonesOn();
        Due.is("row(0, 3)", x.row(0, 3), 3);
        Due.row("row(0, 3)", x, 0, 0, 0, 0);
        Due.is("row(5, 60)", x.row(5, 60), 60);
        Due.is("row(5, 60), last", x.at(5, 59), 1);
        Due.is("row(1, 0)", x.row(1, 0), 0);
        Due.is("row(1, 0) is there", x.count(6), 3);
        x.lay(0, 1, 8);
        Due.is("row anew", x.row(0, 2), 2);
        Due.row("row anew", x, 0, 0, 0);
        x.lay(0, 0, 4);
        Due.is("row refused", x.row(0, 61), BAD);
        Due.finds("row below 0", x, 0, x.row(0, -1), SIZE);
        Due.row("row refused", x, 0, 4, 0);
        Due.is("row(6, 1)", x.row(6, 1), BAD);
        Due.is("row(-1, 1)", x.row(-1, 1), BAD);
        Due.is("row(6, -1)", x.row(6, -1), BAD);
        Due.is("row(0, MAX)", x.row(0, MAX), BAD);
        Due.finds("row(0, MIN)", x, 1, x.row(0, MIN), SIZE);
    }

    // ---- 3: lay
    private static void lay() {
        MilestonesOn x = new MilestonesOn();
        x.row(2, 2);
        Due.tells("lay(2, 1, 7)", x, x.lay(2, 1, 7), 1, 0);
        Due.tells("lay(2, 1, MIN)", x, x.lay(2, 1, MIN), 1, 7);
        Due.tells("lay(2, 1, 3)", x, x.lay(2, 1, 3), 1, MIN);
        Due.row("lay", x, 2, 0, 3);
        Due.finds("lay behind", x, 1, x.lay(2, 2, 1), BEYOND);
        Due.finds("lay ahead", x, 2, x.lay(2, -1, 1), BEYOND);
        Due.finds("lay missing", x, 0, x.lay(3, 0, 1), NOTHING);
        Due.finds("lay missing and beyond", x, 1, x.lay(3, -1, 1), NOTHING);
        Due.is("lay(6)", x.lay(6, 0, 1), BAD);
        Due.is("lay(-1)", x.lay(-1, 0, 1), BAD);
        x.row(4, 1);
        Due.finds("lay at its size", x, 3, x.lay(4, 1, 1), BEYOND);
        Due.row("lay, refused ones", x, 2, 0, 3);
    }

    // ---- 4: at
    private static void at() {
        MilestonesOn x = new MilestonesOn();
        Due.lay(x, 0, 5, -6);
        Due.tells("at(0, 0)", x, x.at(0, 0), 1, 5);
        Due.tells("at(0, 1)", x, x.at(0, 1), 1, -6);
        Due.finds("at behind", x, 0, x.at(0, 2), BEYOND);
        Due.is("at refused, asked", x.asked(), -6);
        Due.finds("at ahead", x, 1, x.at(0, -1), BEYOND);
        Due.finds("at missing", x, 0, x.at(1, 0), NOTHING);
        Due.is("at(6, 0)", x.at(6, 0), BAD);
        Due.is("at(-1, 0)", x.at(-1, 0), BAD);
        Due.is("at MAX", x.at(0, MAX), FINDING);
        Due.is("at MIN", x.at(0, MIN), FINDING);
    }

    // ---- 5: tear
    private static void tear() {
        MilestonesOn x = new MilestonesOn();
        x.row(5, 0);
        Due.is("tear(5)", x.tear(5), 1);
        Due.is("tear, count", x.count(6), 0);
        Due.finds("tear again", x, 0, x.tear(5), NOTHING);
        Due.is("tear(6)", x.tear(6), BAD);
        Due.is("tear(-1)", x.tear(-1), BAD);
        Due.lay(x, 1, 9);
        x.tear(1);
        x.row(1, 1);
        Due.row("tear, then anew", x, 1, 0);
    }

    // ---- 6: copy
    private static void copy() {
        MilestonesOn x = new MilestonesOn();
        Due.lay(x, 0, 1, 2, 3, 4, 5);
        Due.lay(x, 1, 7, 8, 9);
        Due.is("copy", x.copy(0, 3, 1, 1, 2), 1);
        Due.row("copy", x, 1, 7, 4, 5);
        Due.is("copy on itself, upwards", x.copy(0, 0, 0, 1, 4), 1);
        Due.row("copy on itself, upwards", x, 0, 1, 1, 2, 3, 4);
        Due.is("copy on itself, downwards", x.copy(0, 1, 0, 0, 4), 1);
        Due.row("copy on itself, downwards", x, 0, 1, 2, 3, 4, 4);
        Due.is("copy none at the ends", x.copy(0, 5, 1, 3, 0), 1);
        int n = x.findings(BEYOND);
        Due.finds("copy none above a size", x, n, x.copy(0, 6, 1, 0, 0), BEYOND);
        Due.finds("copy none above the other's size", x, n + 1, x.copy(0, 0, 1, 4, 0), BEYOND);
        Due.finds("copy none below 0", x, n + 2, x.copy(0, -1, 1, 0, 0), BEYOND);
        Due.finds("copy none to below 0", x, n + 3, x.copy(0, 0, 1, -1, 0), BEYOND);
        Due.finds("copy too many from", x, n + 4, x.copy(1, 1, 0, 0, 3), BEYOND);
        Due.finds("copy too many to", x, n + 5, x.copy(0, 0, 1, 0, 4), BEYOND);
        Due.finds("copy MAX", x, n + 6, x.copy(0, 1, 1, 0, MAX), BEYOND);
        Due.finds("copy from MAX", x, n + 7, x.copy(0, MAX, 1, 0, MAX), BEYOND);
        Due.finds("copy below none", x, 0, x.copy(0, 0, 1, 0, -1), SIZE);
        Due.finds("copy below none, missing", x, 1, x.copy(2, 0, 1, 0, -1), SIZE);
        Due.finds("copy missing", x, 0, x.copy(2, 0, 1, 0, 1), NOTHING);
        Due.finds("copy to missing, beyond", x, 1, x.copy(1, 9, 2, 0, 1), NOTHING);
        Due.is("copy(6)", x.copy(6, 0, 1, 0, -1), BAD);
        Due.is("copy to 6", x.copy(0, 0, 6, 0, 1), BAD);
        Due.is("copy to -1", x.copy(0, 0, -1, 0, 1), BAD);
        Due.row("copy, refused ones", x, 1, 7, 4, 5);
    }

    // ---- 7: mean
    private static void mean() {
        MilestonesOn x = new MilestonesOn();
        Due.lay(x, 0, 2, 3, 6);
        Due.tells("mean 11/3", x, x.mean(0), 1, 3);
        Due.lay(x, 0, -2, -3);
        Due.tells("mean -5/2, cut", x, x.mean(0), 1, -2);
        Due.lay(x, 0, MAX, MAX, MAX);
        Due.tells("mean of the greatest", x, x.mean(0), 1, MAX);
        Due.lay(x, 0, MIN, MIN);
        Due.tells("mean of the least", x, x.mean(0), 1, MIN);
        x.row(1, 0);
        Due.finds("mean of none", x, 0, x.mean(1), NOUGHT);
        Due.is("mean refused, asked", x.asked(), MIN);
        Due.finds("mean missing", x, 0, x.mean(2), NOTHING);
        Due.is("mean(6)", x.mean(6), BAD);
        Due.is("mean(-1)", x.mean(-1), BAD);
    }

    // ---- 8: text
    private static void text() {
        MilestonesOn x = new MilestonesOn();
        Due.is("text(3, 60)", x.text(3, 60), 60);
        Due.is("text has blanks", x.put(3, 59, 1), 1032);
        Due.is("text(3, 1) anew", x.text(3, 1), 1);
        Due.is("text anew", x.put(3, 0, 2), 1032);
        Due.is("text(0, 0)", x.text(0, 0), 0);
        Due.is("text, count", x.count(7), 2);
        Due.is("text(0, 61)", x.text(0, 61), BAD);
        Due.is("text(4, 0)", x.text(4, 0), BAD);
        Due.is("text(-1, 0)", x.text(-1, 0), BAD);
        Due.is("text(4, -1)", x.text(4, -1), BAD);
        Due.finds("text below 0", x, 0, x.text(3, -1), SIZE);
        Due.is("text refused", x.put(3, 0, 2), 1002);
    }

    // ---- 9: put
    private static void put() {
        MilestonesOn x = new MilestonesOn();
        x.text(1, 2);
        Due.is("put", x.put(1, 0, 127), 1032);
        Due.is("put 128", x.put(1, 0, 128), 1127);
        Due.is("put 256", x.put(1, 0, 256), 872);
        Due.is("put -129", x.put(1, 0, -129), 1000);
        Due.is("put MIN", x.put(1, 0, MIN), 1127);
        Due.is("put was", x.put(1, 0, -1), 1000);
        Due.is("put was -1", x.put(1, 0, 0), 999);
        Due.is("put, no asked", x.asked(), 0);
        Due.finds("put behind", x, 0, x.put(1, 2, 1), BEYOND);
        Due.finds("put ahead", x, 1, x.put(1, -1, 1), BEYOND);
        Due.finds("put missing", x, 0, x.put(0, 0, 1), NOTHING);
        Due.is("put(4)", x.put(4, 0, 1), BAD);
        Due.is("put(-1)", x.put(-1, 0, 1), BAD);
    }

    private static void faulty(String text, int want) {
        MilestonesOn x = new MilestonesOn();
        Due.write(x, 2, text);
        Due.is("fault of '" + text + "'", x.fault(2), want);
        Due.is("road of '" + text + "'", x.road(2) == STATE ? 1 : 0, want == NONE ? 0 : 1);
    }

    // ---- 10: fault
    private static void fault() {
        faulty("r2", NONE);
        faulty("r7", NONE);
        faulty("  r3  ", NONE);
        faulty("r3m10m21w01c12b20l10t21", NONE);
        faulty(" r3 m10  m21 p01 ", NONE);
        faulty("", 0);
        faulty("    ", 4);
        faulty("r", 1);
        faulty("r1", 1);
        faulty("r8", 1);
        faulty("r 3", 1);
        faulty("x3", 0);
        faulty("R3", 0);
        faulty("3", 0);
        faulty("r3r3", 2);
        faulty("r33", 2);
        faulty("r3m", 3);
        faulty("r3m1", 4);
        faulty("r3 m1 0", 5);
        faulty("r3m 10", 3);
        faulty("r3m00", 3);
        faulty("r3m13", 4);
        faulty("r3m92", NONE);
        faulty("r3m10m11", 6);
        faulty("r3m10m20m12", 9);
        faulty("r3w", 3);
        faulty("r3w0", 4);
        faulty("r3w00", 4);
        faulty("r3w30", 3);
        faulty("r3w03", 4);
        faulty("r3w0 1", 4);
        faulty("r3w01m10", 5);
        faulty("r3z01", 2);
        faulty("r3w01 -", 6);
        faulty("r3 w01 w", 8);
        faulty("r7m16w65", NONE);
        faulty("r7m17", 4);
        faulty("r3m:0", 3);
        faulty("r3m/0", 3);
        MilestonesOn x = new MilestonesOn();
        Due.finds("fault missing", x, 0, x.fault(3), NOTHING);
        Due.is("fault(4)", x.fault(4), BAD);
        Due.is("fault(-1)", x.fault(-1), BAD);
        x.text(0, 3);
        x.put(0, 0, 'r');
        x.put(0, 1, '3');
        x.put(0, 2, -1);
        Due.is("fault at a byte -1", x.fault(0), 2);
        x.put(0, 2, 0);
        Due.is("fault at a byte 0", x.fault(0), 2);
        Due.is("fault lays no road", x.count(0), 0);
    }

    private static void faultCounts() {
        faulty("r7 m10 m20 m30 m40 m50 w01 w01 w01 w01 w01", NONE);
        faulty("r7m10m20m30m40m50m60", 17);
        faulty("r7 m10 m20 m30 m40 m50 m", 23);
        faulty("r7w01c01b01l01t01p01", 17);
        faulty("r7w01w01w01w01w01 x", 18);
        faulty("r7w01w01w01w01w01m10", 17);
        faulty("r7m10m20m30m40m50w01w01w01w01w01                            ", NONE);
    }

    // ---- 11: road
    private static void road() {
        MilestonesOn x = Due.road("r4m12m21w01p32");
        Due.is("road, stones", x.road(0), 2);
        Due.is("road, posts", x.count(0), 4);
        Due.is("road, walkers", x.count(3), 2);
        x.law(2);
        x.walk(1);
        x.keep(0);
        Due.write(x, 1, "r2m51");
        Due.is("road anew", x.road(1), 1);
        Due.is("road anew, posts", x.count(0), 2);
        Due.is("road anew, walkers", x.count(3), 0);
        Due.is("road anew, walks", x.count(4), 0);
        Due.is("road anew, kept", x.on(0), FINDING);
        Due.is("road anew, law", x.law(1), 0);
        Due.write(x, 2, "r2m52");
        Due.is("road with a fault", x.road(2), STATE);
        Due.is("road refused", x.count(1), 1);
        Due.is("road refused, law", x.law(0), 1);
        Due.finds("road missing", x, x.findings(NOTHING), x.road(3), NOTHING);
        Due.is("road(4)", x.road(4), BAD);
        Due.is("road(-1)", x.road(-1), BAD);
        Due.is("road without stones", Due.road("r5w01").count(1), 0);
    }

    // ---- 12: stone
    private static void stone() {
        MilestonesOn x = Due.road("r3 m32 m40 t01 b20");
        Due.tells("number", x, x.stone(0, 0), 1, 3);
        Due.tells("post", x, x.stone(0, 1), 1, 2);
        Due.tells("home at the last post", x, x.stone(0, 2), 1, 2);
        Due.tells("not moved", x, x.stone(0, 3), 1, 0);
        Due.tells("no home", x, x.stone(1, 2), 1, NONE);
        x.walk(1);
        Due.tells("moved there", x, x.stone(0, 3), 1, 1);
        Due.tells("back moves the other", x, x.stone(1, 3), 1, 1);
        Due.tells("moved to", x, x.stone(0, 1), 1, 1);
        x.undo(0);
        x.walk(0);
        Due.tells("lost", x, x.stone(1, 1), 1, NONE);
        Due.tells("lost is moved", x, x.stone(1, 3), 1, 1);
        Due.is("stone(2, 0)", x.stone(2, 0), BAD);
        Due.is("stone(-1, 0)", x.stone(-1, 0), BAD);
        Due.is("stone(0, 4)", x.stone(0, 4), BAD);
        Due.is("stone(0, -1)", x.stone(0, -1), BAD);
        Due.is("stone refused, asked", x.asked(), 1);
    }

    // ---- 13: walker
    private static void walker() {
        MilestonesOn x = Due.road("r5 m10 w04 c13 b24 l31 t40");
        for (int w = 0; w < 5; w++) {
            Due.tells("kind", x, x.walker(w, 0), 1, w);
        }
        Due.tells("from", x, x.walker(3, 1), 1, 3);
        Due.tells("to", x, x.walker(3, 2), 1, 1);
        x.walk(0);
        x.walk(1);
        x.walk(0);
        Due.tells("pay of two walks", x, x.walker(0, 3), 1, 2);
        Due.tells("pay of one", x, x.walker(1, 3), 1, 1);
        Due.tells("pay of none", x, x.walker(2, 3), 1, 0);
        Due.is("walker(5, 0)", x.walker(5, 0), BAD);
        Due.is("walker(-1, 0)", x.walker(-1, 0), BAD);
        Due.is("walker(0, 4)", x.walker(0, 4), BAD);
        Due.is("walker(0, -1)", x.walker(0, -1), BAD);
        MilestonesOn y = Due.road("r2p01");
        Due.tells("kind of a pilgrim", y, y.walker(0, 0), 1, 5);
    }

    // ---- 14: mark
    private static void mark() {
        MilestonesOn x = Due.road("r5 m10 m20 m84 w01 c02 b04 l20 t43");
        Due.is("cart", x.mark(1, 1), 2);
        Due.is("both", x.mark(2, 2), 1);
        Due.is("lame", x.mark(3, 3), 1);
        Due.is("thief as a lame one", x.mark(4, 3), 3);
        Due.is("thief", x.mark(4, 4), 8);
        x.walk(4);
        Due.is("thief, none there", x.mark(4, 4), NONE);
        Due.is("both, a lost one stays", x.mark(2, 2), 3);
        int n = x.findings(UNLIKE);
        Due.finds("a walker is no cart", x, n, x.mark(0, 1), UNLIKE);
        Due.finds("a cart is no both", x, n + 1, x.mark(1, 2), UNLIKE);
        Due.finds("a lame one is no thief", x, n + 2, x.mark(3, 4), UNLIKE);
        Due.finds("a both is no pilgrim", x, n + 3, x.mark(2, 5), UNLIKE);
        Due.finds("a thief is no both", x, n + 4, x.mark(4, 2), UNLIKE);
        Due.is("kind 0", x.mark(0, 0), BAD);
        Due.is("kind 6", x.mark(0, 6), BAD);
        Due.is("kind -1", x.mark(0, -1), BAD);
        Due.is("no walker", x.mark(5, 1), BAD);
        Due.is("mark(-1)", x.mark(-1, 1), BAD);
        Due.is("mark moves nothing", x.count(4), 1);
        Due.is("mark tells by its answer", x.asked(), 0);
        MilestonesOn y = Due.road("r7 m11 m25 p62 p16");
        Due.is("pilgrim", y.mark(0, 5), 8);
        Due.is("pilgrim as a both", y.mark(0, 2), 1);
        Due.finds("a pilgrim is no lame one", y, 0, y.mark(0, 3), UNLIKE);
        MilestonesOn z = Due.road("r4 m10 m20 m30 m40 c03");
        Due.is("cart takes three", z.mark(0, 1), 3);
    }

    // ---- 15: law
    private static void law() {
        MilestonesOn x = Due.road("r3 m20 m70 m30 w01");
        Due.is("law 0 pays", x.pays(0), 2);
        Due.is("law(1)", x.law(1), 0);
        Due.is("law 1 pays", x.pays(0), 7);
        Due.is("law(2)", x.law(2), 1);
        Due.is("law 2, no home first", x.pays(0), 7);
        Due.is("law(3)", x.law(3), BAD);
        Due.is("law(-1)", x.law(-1), BAD);
        Due.is("law stays", x.law(2), 2);
        Due.is("law without a road", new MilestonesOn().law(2), 0);
    }

    private static void lawTwo() {
        MilestonesOn x = Due.road("r7 m13 m73 m43 w30");
        x.law(2);
        Due.is("as far, the least number", x.pays(0), 1);
        x.walk(0);
        Due.is("then the other far one", x.pays(0), 7);
        x.walk(0);
        Due.is("then the one at home", x.pays(0), 4);
        MilestonesOn y = Due.road("r3 m90 m80 m30 w01");
        y.law(2);
        Due.is("of those without home the least", y.pays(0), 8);
        MilestonesOn z = Due.road("r7 m22 m62 m42 c20");
        z.law(2);
        Due.is("a cart of three", z.pays(0), 12);
        MilestonesOn u = Due.road("r7 m12 m22 m32 m72 c20");
        u.law(2);
        Due.is("a cart leaves the nearest", u.walk(0), 10);
        Due.tells("the one at home stays", u, u.stone(2, 1), 1, 2);
    }

    // ---- 16: walk (each kind)
    private static void walkOfWalker() {
        MilestonesOn x = Due.road("r5 m32 m52 m43 w04 w41 w01 w40");
        Due.is("at the first post with a stone", x.walk(0), 3);
        x.where(0);
        Due.row("one post on", x, 0, 3, 2, 3);
        Due.is("downwards", x.walk(1), 3);
        x.where(0);
        Due.row("downwards", x, 0, 2, 2, 3);
        Due.is("none on the way", x.walk(2), 0);
        Due.is("a walk that moves none is done", x.count(4), 3);
        MilestonesOn y = Due.road("r3 m12 w02");
        Due.is("a stone at the end is not taken", y.walk(0), 0);
        MilestonesOn z = Due.road("r3 m11 w02");
        Due.is("a stone ahead of the end is", z.walk(0), 1);
        Due.is("walk(1)", z.walk(1), BAD);
        Due.is("walk(-1)", z.walk(-1), BAD);
        Due.is("walk without a road", new MilestonesOn().walk(0), BAD);
    }

    private static void walkOfCart() {
        MilestonesOn x = Due.road("r6 m11 m21 m31 m41 m52 c05");
        Due.is("three", x.walk(0), 6);
        x.where(0);
        Due.row("three", x, 0, 2, 2, 2, 1, 2);
        Due.is("the one left", x.walk(0), 4);
        Due.is("three of five", x.walk(0), 6);
        x.law(1);
        Due.is("by law 1: two are there", x.walk(0), 9);
        Due.is("then three of five", x.walk(0), 12);
    }

    private static void walkOfBoth() {
        MilestonesOn x = Due.road("r4 m10 m73 b03 b12");
        Due.is("there and back", x.walk(0), 8);
        x.where(0);
        Due.row("there and back", x, 0, 1, 2);
        Due.is("the same stone twice", x.walk(1), 2);
        x.where(0);
        Due.row("there, then the least at the end", x, 0, 1, 2);
        MilestonesOn y = Due.road("r4 m60 b01");
        Due.is("carried there and back", y.walk(0), 12);
        Due.tells("moved twice", y, y.stone(0, 3), 1, 2);
        Due.tells("where it was", y, y.stone(0, 1), 1, 0);
        Due.is("where they were", y.mark(0, 2), 1);
    }

    private static void walkOfLameAndThief() {
        MilestonesOn x = Due.road("r5 m11 m21 m92 l03 l14 t13 t20");
        Due.is("a lame one looks at its post only", x.walk(0), 0);
        Due.is("a lame one", x.walk(1), 1);
        x.where(0);
        Due.row("a lame one", x, 0, 2, 1, 2);
        Due.is("a thief", x.walk(2), 2);
        Due.is("a thief, none there", x.walk(2), 0);
        Due.is("a thief by law 1", x.walk(3), 9);
        Due.is("where, lost", x.where(0), 2);
        Due.row("lost", x, 0, 2, NONE, NONE);
        Due.is("a thief again", x.walk(3), 1);
        Due.is("all lost", x.count(2), 3);
        Due.is("none to carry", x.walk(1), 0);
    }

    private static void walkOfPilgrim() {
        MilestonesOn x = Due.road("r6 m22 m44 p05 p41");
        Due.is("to the end; back: to the start", x.walk(0), 4);
        x.where(0);
        Due.row("the same one all the way and back to the start", x, 0, 0, 4);
        Due.is("downwards", x.walk(1), 8);
        x.where(0);
        Due.row("taken to 1 and back to 4", x, 0, 0, 4);
        MilestonesOn y = Due.road("r6 m20 m15 p05");
        Due.is("two stones", y.walk(0), 3);
        y.where(0);
        Due.row("two stones change ends", y, 0, 5, 0);
        MilestonesOn z = Due.road("r6 m33 p04 p24");
        z.walk(1);
        Due.tells("from the middle to the end, back to its own start", z, z.stone(0, 1), 1, 2);
    }

    private static void walkFull() {
        MilestonesOn x = Due.road("r2 m10 b01");
        for (int i = 0; i < 60; i++) {
            Due.is("walk " + i, x.walk(0), 2);
        }
        Due.is("walk 60", x.walk(0), FULL);
        Due.is("no walker comes first", x.walk(1), BAD);
        Due.is("walks done", x.count(4), 60);
        Due.tells("moved", x, x.stone(0, 3), 1, 120);
        Due.tells("paid", x, x.walker(0, 3), 1, 120);
        x.undo(59);
        Due.is("room for one", x.walk(0), 2);
    }

    // ---- 17: pays
    private static void pays() {
        MilestonesOn x = Due.road("r4 m31 m90 w13 t01");
        Due.tells("pays, nearer home", x, x.pays(0), 3, 0);
        Due.tells("pays, one lost", x, x.pays(1), 9, 11);
        Due.is("pays moves nothing", x.count(4), 0);
        Due.tells("pays moves nothing", x, x.stone(0, 1), 1, 1);
        Due.is("pays(2)", x.pays(2), BAD);
        Due.is("pays(-1)", x.pays(-1), BAD);
        Due.is("pays refused, asked", x.asked(), 1);
    }

    // ---- 18: undo
    private static void undo() {
        MilestonesOn x = Due.road("r5 m10 m20 w04 t21");
        x.walk(0);
        x.walk(0);
        x.law(1);
        x.walk(0);
        x.walk(1);
        Due.is("undo at the end", x.undo(4), 0);
        Due.is("undo beyond", x.undo(5), BAD);
        Due.is("undo below", x.undo(-1), BAD);
        Due.is("undo one", x.undo(3), 1);
        Due.is("undo, none lost", x.count(2), 0);
        Due.tells("undo, paid", x, x.walker(1, 3), 1, 0);
        Due.is("undo two", x.undo(1), 2);
        x.where(0);
        Due.row("undo two", x, 0, 1, 0);
        Due.tells("undo, moved", x, x.stone(0, 3), 1, 1);
        Due.tells("undo, paid", x, x.walker(0, 3), 1, 1);
        Due.is("undo, the law stays", x.law(0), 1);
        Due.is("undo all", x.undo(0), 1);
        Due.is("undo, none", x.undo(0), 0);
        Due.is("undo without a road", new MilestonesOn().undo(0), 0);
        Due.is("undo(1) without a road", new MilestonesOn().undo(1), BAD);
    }

    // ---- 19: walks
    private static void walks() {
        MilestonesOn x = Due.road("r4 m10 m70 w03 c03");
        Due.lay(x, 1, 0, 1, 0);
        // the WALKER takes 1 from 0, the CART 7 from 0, the WALKER 1 from 1
        Due.is("walks", x.walks(1), 9);
        x.where(0);
        Due.row("walks", x, 0, 2, 1);
        Due.is("walks done", x.count(4), 3);
        x.row(2, 0);
        Due.is("walks of none", x.walks(2), 0);
        Due.lay(x, 3, 0, 2);
        Due.finds("no walker", x, 0, x.walks(3), UNLIKE);
        Due.lay(x, 3, 0, -1);
        Due.finds("no walker -1", x, 1, x.walks(3), UNLIKE);
        Due.is("none of them is done", x.count(4), 3);
        Due.finds("walks missing", x, x.findings(NOTHING), x.walks(5), NOTHING);
        Due.is("walks(6)", x.walks(6), BAD);
        Due.is("walks(-1)", x.walks(-1), BAD);
        x.row(4, 58);
        Due.is("61 walks", x.walks(4), FULL);
        Due.is("61 walks: none is done", x.count(4), 3);
        x.lay(4, 57, 9);
        Due.finds("no walker comes ahead of full", x, 2, x.walks(4), UNLIKE);
        x.row(4, 57);
        Due.is("60 walks", x.walks(4) >= 0 ? 1 : 0, 1);
        Due.is("60 walks", x.count(4), 60);
        Due.is("none more", x.walks(2), 0);
    }

    // ---- 20: where
    private static void where() {
        MilestonesOn x = Due.road("r4 m13 m20 m31 t01");
        x.row(4, 9);
        x.lay(4, 1, 77);
        Due.is("where", x.where(4), 0);
        Due.row("where", x, 4, 3, 0, 1);
        x.walk(0);
        Due.is("where, one lost", x.where(5), 1);
        Due.row("where, one lost", x, 5, 3, NONE, 1);
        Due.is("where(6)", x.where(6), BAD);
        Due.is("where(-1)", x.where(-1), BAD);
        MilestonesOn y = new MilestonesOn();
        Due.is("where without a road", y.where(0), 0);
        Due.is("a row of none", y.count(6), 1);
    }

    // ---- 21: apart
    private static void apart() {
        MilestonesOn x = Due.road("r4 m13 m21 m90 m30 t02 t10");
        Due.tells("apart", x, x.apart(), 5, 1);
        x.walk(0);
        Due.tells("one without home is lost", x, x.apart(), 15, 1);
        x.walk(1);
        Due.tells("one with home is lost", x, x.apart(), 25, 0);
        MilestonesOn y = new MilestonesOn();
        Due.tells("apart without a road", y, y.apart(), 0, 0);
    }

    // ---- 22, 23: keep, on
    private static void keepAndOn() {
        MilestonesOn x = Due.road("r5 m10 m21 w04 t10");
        Due.is("keep(1)", x.keep(1), 0);
        x.law(1);
        x.walk(0);
        x.walk(1);
        Due.is("keep(2)", x.keep(2), 2);
        x.law(2);
        Due.is("on(1)", x.on(1), 1);
        x.where(0);
        Due.row("on(1)", x, 0, 0, 1);
        Due.is("on(1), law", x.law(0), 0);
        Due.is("on(1), walks", x.count(4), 0);
        Due.tells("on(1), moved", x, x.stone(0, 3), 1, 0);
        Due.tells("on(1), paid", x, x.walker(0, 3), 1, 0);
        Due.is("on(2)", x.on(2), 1);
        Due.is("on(2), lost", x.count(2), 1);
        Due.is("on(2), law", x.law(1), 1);
        Due.is("on(2), none to undo", x.undo(1), BAD);
        Due.is("on(2) again", x.on(2), 1);
        Due.finds("on missing", x, x.findings(NOTHING), x.on(0), NOTHING);
        Due.is("keep over", x.keep(1), 0);
        x.on(1);
        Due.is("keep over", x.count(2), 1);
        Due.is("keep(3)", x.keep(3), BAD);
        Due.is("keep(-1)", x.keep(-1), BAD);
        Due.is("on(3)", x.on(3), BAD);
        Due.is("on(-1)", x.on(-1), BAD);
        MilestonesOn y = new MilestonesOn();
        Due.is("keep without a road", y.keep(0), STATE);
        Due.is("keep(3) without a road", y.keep(3), BAD);
        Due.finds("on without a road", y, 0, y.on(0), NOTHING);
    }

    // ---- 24: sees
    private static void sees() {
        MilestonesOn x = Due.road("r3 m81 m51 m62 t20");
        Due.tells("none", x, x.sees(0), 0, 0);
        Due.tells("the least of two", x, x.sees(1), 5, 2);
        Due.tells("one", x, x.sees(2), 6, 1);
        x.walk(0);
        Due.tells("a lost one", x, x.sees(2), 0, 0);
        Due.is("sees(3)", x.sees(3), BAD);
        Due.is("sees(-1)", x.sees(-1), BAD);
        Due.is("sees(7)", x.sees(7), BAD);
        Due.is("sees without a road", new MilestonesOn().sees(0), BAD);
    }

    // ---- 25: may
    private static void may() {
        MilestonesOn x = Due.road("r6 m31 m94 m14");
        Due.lay(x, 0, 0);
        Due.is("a post without stones", x.may(0), 1 + 4 + 8 + 32);
        Due.lay(x, 0, 0, 0);
        Due.is("two of them", x.may(0), 4);
        Due.lay(x, 0, 1);
        Due.is("the least number", x.may(0), 16);
        Due.lay(x, 0, 9);
        Due.is("not seen behind a lesser one", x.may(0), 0);
        Due.lay(x, 0, 1, 0);
        Due.is("up to the last post", x.may(0), 16);
        Due.lay(x, 0, 1, 0, 0);
        Due.is("beyond the last post", x.may(0), 0);
        Due.lay(x, 0, 0, 3, 0, 0, 1, 0);
        Due.is("all posts", x.may(0), 1);
        Due.lay(x, 0, 0, 3, 0, 0, 1, 0, 0);
        Due.finds("more than posts", x, 0, x.may(0), SIZE);
        x.row(1, 0);
        Due.finds("none", x, 1, x.may(1), SIZE);
        Due.lay(x, 1, 0, 10);
        Due.finds("10", x, 0, x.may(1), UNLIKE);
        Due.lay(x, 1, -1, 0);
        Due.finds("-1", x, 1, x.may(1), UNLIKE);
        Due.lay(x, 1, -1, 0, 0, 0, 0, 0, 0);
        Due.finds("size ahead of unlike", x, 2, x.may(1), SIZE);
        Due.finds("may missing", x, 0, x.may(5), NOTHING);
        Due.is("may(6)", x.may(6), BAD);
        Due.is("may(-1)", x.may(-1), BAD);
    }

    // ---- 26: standings
    private static void standings() {
        MilestonesOn x = Due.road("r3 m10 w02 w20 w01");
        Due.tells("0 walks", x, x.standings(0, 2), 1, 1);
        Due.tells("1 walk", x, x.standings(1, 0), 2, 1);
        Due.tells("2 walks", x, x.standings(2, 0), 3, 1);
        Due.tells("3 walks", x, x.standings(3, 1), 3, 2);
        Due.is("standings(4, 0)", x.standings(4, 0), BAD);
        Due.is("standings(-1, 0)", x.standings(-1, 0), BAD);
        Due.is("standings(0, 3)", x.standings(0, 3), BAD);
        Due.is("standings(0, -1)", x.standings(0, -1), BAD);
        Due.is("standings refused, asked", x.asked(), 2);
        MilestonesOn y = Due.road("r3 m10");
        Due.tells("no walkers, 0 walks", y, y.standings(0, 0), 1, 1);
        Due.tells("no walkers, 1 walk", y, y.standings(1, 0), 0, 0);
    }

    // ---- 27: look
    private static void look() {
        MilestonesOn x = Due.road("r4 m11 l12 l10 w30");
        Due.tells("look(0)", x, x.look(0), 0, 1);
        // behind one WALK the STONE is at 2, 0 or 0: POST 0 tells the two apart
        Due.tells("look(1)", x, x.look(1), 0, 1);
        MilestonesOn y = Due.road("r4 m12 l23 l21 l01");
        // behind one WALK it is at 3, 1 or 2: the first POST that leaves two at most is 1
        Due.tells("look(1), three", y, y.look(1), 1, 2);
        Due.is("look(4)", y.look(4), BAD);
        Due.is("look(-1)", y.look(-1), BAD);
        Due.is("look refused, asked", y.asked(), 2);
        Due.is("look without a road", new MilestonesOn().look(0), STATE);
        Due.is("look(4) without a road", new MilestonesOn().look(4), BAD);
        MilestonesOn z = Due.road("r4 m12");
        Due.tells("look, no walkers", z, z.look(1), 0, 0);
    }

    // ---- 28: fewest
    private static void fewest() {
        MilestonesOn x = Due.road("r4 m12 m30 l21 l10 l01 l12");
        Due.tells("m1 two down, m3 two up", x, x.fewest(), 4, 1);
        MilestonesOn d = Due.road("r4 m12 m30 w30 w03");
        Due.is("the 1 is taken ahead of the 3 for ever", d.fewest(), NONE);
        Due.is("fewest stays", x.count(4), 0);
        MilestonesOn y = Due.road("r3 m10 m92 w20 t20");
        Due.tells("at home", y, y.fewest(), 0, 1);
        MilestonesOn z = Due.road("r3 m21 m92 m80 l21 t20 w10");
        z.walk(2);
        Due.tells("a lost one without home does not matter", z, z.fewest(), NONE, 0);
        MilestonesOn u = Due.road("r3 m22 m91 l21 t10 b12");
        // by the LAME one; by the BOTH, that takes the 9 there and the 2 back, to another STANDING
        Due.tells("two standings", u, u.fewest(), 1, 2);
        u.walk(1);
        Due.is("9 is lost", u.count(2), 1);
        Due.is("still to be brought home", u.fewest(), 1);
        MilestonesOn v = Due.road("r3 m22 m90 l21 c21 w01 w21");
        Due.tells("the walkers that do the same come to one standing", v, v.fewest(), 1, 1);
        MilestonesOn w = Due.road("r4 m23 m90 b31 l01 l32 p32 w30");
        Due.tells("two needed; a both and a pilgrim bring it back", w, w.fewest(), 2, 1);
        MilestonesOn a = Due.road("r3 m10 t01");
        a.walk(0);
        Due.is("one with a home is lost", a.fewest(), NONE);
        Due.is("fewest, none, asked", a.asked(), 0);
        MilestonesOn b = new MilestonesOn();
        Due.is("fewest without a road", b.fewest(), STATE);
        MilestonesOn c = Due.road("r2");
        Due.tells("no stones", c, c.fewest(), 0, 1);
    }

    // ---- 29: way
    private static void way() {
        MilestonesOn x = Due.road("r4 m12 m30 l21 l10 l01 l12");
        Due.is("way", x.way(2), 4);
        // 0 1 .. leaves the 1 beside the 3, to be taken ahead of it; 0 2 1 3 is the first that goes
        Due.row("the first row", x, 2, 0, 2, 1, 3);
        Due.is("way stays", x.count(4), 0);
        Due.is("walks of it", x.walks(2), 8);
        Due.tells("home", x, x.apart(), 0, 2);
        x.row(3, 5);
        Due.is("0 walks", x.way(3), 0);
        Due.row("a row of none", x, 3);
        MilestonesOn y = Due.road("r3 m20 t01 w20 w02 l01");
        Due.is("the first that does it", y.way(0), 1);
        Due.row("the first that does it", y, 0, 2);
        y.walk(0);
        Due.lay(y, 0, 6, 6);
        Due.is("never", y.way(0), NONE);
        Due.row("never: the row stays", y, 0, 6, 6);
        Due.is("way(6)", y.way(6), BAD);
        Due.is("way(-1)", y.way(-1), BAD);
        MilestonesOn z = new MilestonesOn();
        Due.is("way without a road", z.way(0), STATE);
        Due.is("way(6) without a road", z.way(6), BAD);
        Due.is("way refused", z.count(6), 0);
    }

    private static void waySpent() {
        MilestonesOn x = Due.road("r7m11m51m75m33m62w30w16p30b41w12");
        Due.is("60 walks are needed", x.fewest(), 60);
        Due.is("60 walks", x.way(0), 60);
        x.walks(0);
        Due.tells("60 walks bring it home", x, x.fewest(), 0, 1);
        MilestonesOn y = Due.road("r7m75m41m26m16m66l10p51w56b60");
        Due.is("61 walks are needed", y.fewest(), 61);
        Due.lay(y, 0, 4);
        Due.is("61 walks", y.way(0), SPENT);
        Due.row("61 walks: the row stays", y, 0, 4);
    }

    // ---- 30: all
    private static void all() {
        MilestonesOn x = Due.road("r4 m10 w03");
        Due.tells("all posts", x, x.all(), 4, 3);
        MilestonesOn y = Due.road("r4 m10 w03 t21");
        Due.tells("all posts and lost", y, y.all(), 5, 3);
        y.walk(0);
        Due.tells("from as it is", y, y.all(), 4, 2);
        MilestonesOn z = new MilestonesOn();
        Due.tells("all without a road", z, z.all(), 1, 0);
        MilestonesOn u = Due.road("r4 m10");
        Due.tells("all without walkers", u, u.all(), 1, 0);
    }

    // ---- 31: best
    private static void best() {
        MilestonesOn x = Due.road("r3 m10 m30 l01 w12 w20");
        Due.tells("law 1 takes 3 at once", x, x.best(), 1, 2);
        Due.is("the law stays", x.law(1), 0);
        Due.is("as fewest tells then", x.fewest(), 2);
        MilestonesOn y = Due.road("r3 m10 m21 w02");
        Due.tells("at home by any: the first", y, y.best(), 0, 0);
        MilestonesOn z = Due.road("r3 m20 w21");
        Due.tells("never", z, z.best(), 0, NONE);
        MilestonesOn u = Due.road("r7 m15 m25 m45 w50 w53");
        u.law(2);
        int own = u.fewest();
        Due.is("not less than the best", u.best() >= 0 && u.asked() <= own ? 1 : 0, 1);
        MilestonesOn v = Due.road("r4 m10 m20 m40 l01 l12 l23");
        // by law 0 the 1 goes away first for ever, by law 1 the 4 and then the 2, by law 2 likewise
        Due.tells("law 1 ahead of law 2", v, v.best(), 1, 4);
        Due.is("best without a road", new MilestonesOn().best(), STATE);
        MilestonesOn w = Due.road("r5 m22 m52 m42 l21 w24 w34 l32");
        w.law(2);
        int byTwo = w.fewest();
        w.law(1);
        int byOne = w.fewest();
        w.law(0);
        int byNought = w.fewest();
        int least = Math.min(byNought == NONE ? MAX : byNought,
            Math.min(byOne == NONE ? MAX : byOne, byTwo == NONE ? MAX : byTwo));
        Due.is("the least of the three", w.best() >= 0 ? w.asked() : 0, least);
    }

    // ---- 32: nearest
    private static void nearest() {
        MilestonesOn x = Due.road("r4 m40 w02 t20");
        Due.tells("as near as it goes", x, x.nearest(), 1, 2);
        MilestonesOn y = Due.road("r4 m40 l12");
        Due.tells("no nearer", y, y.nearest(), 3, 0);
        MilestonesOn z = new MilestonesOn();
        Due.tells("nearest without a road", z, z.nearest(), 0, 0);
        MilestonesOn u = Due.road("r3 m10 t01");
        u.walk(0);
        Due.tells("a lost one", u, u.nearest(), 10, 0);
    }

    // ---- 33: brings
    private static void brings() {
        MilestonesOn x = Due.road("r4 m10 m20 w02 l21");
        Due.is("there already", x.brings(0, 0), 0);
        Due.is("two posts on", x.brings(0, 2), 3);
        Due.is("behind the other", x.brings(1, 1), 2);
        Due.is("never", x.brings(0, 3), NONE);
        Due.is("brings tells by its answer", x.asked(), 0);
        Due.is("brings(2, 0)", x.brings(2, 0), BAD);
        Due.is("brings(-1, 0)", x.brings(-1, 0), BAD);
        Due.is("brings(0, 4)", x.brings(0, 4), BAD);
        Due.is("brings(0, -1)", x.brings(0, -1), BAD);
        Due.is("brings to lost", x.brings(0, NONE), BAD);
        Due.is("brings to 7", x.brings(0, 7), BAD);
    }

    // ---- 34: earn
    private static void earn() {
        MilestonesOn x = Due.road("r3 m90 m40 m12 w02 b20 c01");
        Due.tells("one walk", x, x.earn(1), 13, 2);
        // the CART takes 13 to POST 1, then the WALKER takes 4; the BOTH would take 1 there, 1 back
        Due.tells("the row 2 0, to the base of 5", x, x.earn(2), 17, 10);
        Due.is("earn stays", x.count(4), 0);
        Due.is("earn(0)", x.earn(0), BAD);
        Due.is("earn(5)", x.earn(5), BAD);
        Due.is("earn(-1)", x.earn(-1), BAD);
        Due.is("earn refused, asked", x.asked(), 10);
        MilestonesOn y = Due.road("r3 m90");
        Due.is("no walkers", y.earn(1), STATE);
        Due.is("no walkers, earn(0)", y.earn(0), BAD);
        Due.is("no road", new MilestonesOn().earn(4), STATE);
        MilestonesOn z = Due.road("r3 m12 w01 w12 l01 l12 l21");
        Due.tells("the row 4 3 4 3", z, z.earn(4), 4, 4 * 125 + 25 + 4 * 5 + 1);
        MilestonesOn u = Due.road("r3 w01");
        Due.tells("nothing to earn", u, u.earn(4), 0, 0);
    }

    // ---- 35: moved
    private static void moved() {
        MilestonesOn x = Due.road("r4 m10 m20 w03 l01 t01");
        Due.lay(x, 0, 0, 0);
        Due.tells("0 walks", x, x.moved(0), 0, 1);
        Due.lay(x, 0, 1, 0);
        Due.tells("by two walkers", x, x.moved(0), 1, 2);
        Due.lay(x, 0, 1, 1);
        Due.tells("in four rows", x, x.moved(0), 2, 4);
        Due.lay(x, 0, 1, NONE);
        Due.tells("one lost", x, x.moved(0), 2, 2 + 2);
        Due.lay(x, 0, 3, 1);
        Due.is("five walks are too many", x.moved(0), NONE);
        Due.is("moved, none, asked", x.asked() == 0 ? 1 : 0, 1);
        Due.lay(x, 0, 0, 3);
        Due.is("never", x.moved(0), NONE);
        Due.lay(x, 0, 2, 2);
        Due.is("four walks", x.moved(0), 4);
        Due.lay(x, 0, 4, 0);
        Due.finds("no post", x, 0, x.moved(0), UNLIKE);
        Due.lay(x, 0, 0, -1);
        Due.finds("-1", x, 1, x.moved(0), UNLIKE);
        Due.lay(x, 0, 7, 0);
        Due.finds("7", x, 2, x.moved(0), UNLIKE);
        Due.lay(x, 0, 9);
        Due.finds("too few", x, 0, x.moved(0), SIZE);
        Due.lay(x, 0, 1, 1, 9);
        Due.finds("too many", x, 1, x.moved(0), SIZE);
        Due.finds("moved missing", x, 0, x.moved(1), NOTHING);
        Due.is("moved(6)", x.moved(6), BAD);
        Due.is("moved(-1)", x.moved(-1), BAD);
        Due.is("moved stays", x.count(4), 0);
    }

    // ---- 36: who
    private static void who() {
        MilestonesOn x = Due.road("r4 m10 m20 w03 l01 t01 l12");
        Due.lay(x, 0, 0, 0);
        Due.is("0 walks", x.who(0), NONE);
        Due.lay(x, 0, 1, 0);
        Due.tells("by two walkers", x, x.who(0), 3, 0);
        Due.lay(x, 0, 2, 0);
        Due.tells("the fourth is in every one", x, x.who(0), 3, 8);
        Due.lay(x, 0, 1, NONE);
        Due.tells("the thief first or last", x, x.who(0), 7, 4);
        Due.lay(x, 0, 0, 3);
        Due.is("never", x.who(0), NONE);
        Due.is("who, none: asked stays", x.asked(), 0);
        Due.lay(x, 0, 4, 0);
        Due.finds("no post", x, 0, x.who(0), UNLIKE);
        Due.lay(x, 0, 1);
        Due.finds("too few", x, 0, x.who(0), SIZE);
        Due.finds("who missing", x, 0, x.who(1), NOTHING);
        Due.is("who(6)", x.who(6), BAD);
        Due.is("who(-1)", x.who(-1), BAD);
    }

    private static void isFraction(String what, MilestonesOn x, int got, long upper, long lower) {
        Due.is(what, got, 1);
        Due.is(what + ", upper()", x.upper(), upper);
        Due.is(what + ", lower()", x.lower(), lower);
    }

    // ---- 37: odds
    private static void odds() {
        MilestonesOn x = Due.road("r3 m10 w02 l01 t01 w21");
        isFraction("0 walks", x, x.odds(0, 0, 0), 1, 1);
        isFraction("0 walks, elsewhere", x, x.odds(0, 1, 0), 0, 1);
        isFraction("one walk", x, x.odds(0, 1, 1), 1, 2);
        isFraction("one walk, lost", x, x.odds(0, NONE, 1), 1, 4);
        isFraction("two walks, lost", x, x.odds(0, NONE, 2), 5, 16);
        isFraction("four walks, where it was", x, x.odds(0, 0, 4), 1, 256);
        Due.is("odds(1, 0, 0)", x.odds(1, 0, 0), BAD);
        Due.is("odds(-1, 0, 0)", x.odds(-1, 0, 0), BAD);
        Due.is("odds(0, 3, 0)", x.odds(0, 3, 0), BAD);
        Due.is("odds(0, -1, 0)", x.odds(0, -1, 0), BAD);
        Due.is("odds(0, 7, 0)", x.odds(0, 7, 0), BAD);
        Due.is("odds(0, 0, 5)", x.odds(0, 0, 5), BAD);
        Due.is("odds(0, 0, -1)", x.odds(0, 0, -1), BAD);
        Due.is("odds refused", x.lower(), 256);
        Due.is("odds tells by upper(), lower()", x.asked(), 0);
        MilestonesOn y = Due.road("r3 m10");
        isFraction("no walkers, 0 walks", y, y.odds(0, 0, 0), 1, 1);
        Due.finds("no walkers", y, 0, y.odds(0, 0, 1), NOUGHT);
        Due.is("no walkers, n above 4", y.odds(0, 0, 5), BAD);
    }

    // ---- 38: years
    private static void years() {
        MilestonesOn x = Due.road("r7 m10 m20 w06");
        // 1 to POST 1, 2 to POST 1, 1 to POST 2
        Due.tells("one walker: as the walks", x, x.years(3, 1), 2, 1);
        Due.tells("all at the end", x, x.years(200, 2147483646), 11, 6);
        Due.is("years stay", x.count(4), 0);
        // 48271 is odd: walker 1; 48271 * 48271 % 2147483647 = 182605794 is even: walker 0
        MilestonesOn y = Due.road("r7 m10 l12 l01");
        Due.tells("1, 0 by the seed 1", y, y.years(2, 1), 2, 2);
        Due.tells("1 by the seed 1", y, y.years(1, 1), 1, 1);
        Due.is("years(0, 1)", y.years(0, 1), BAD);
        Due.is("years(201, 1)", y.years(201, 1), BAD);
        Due.is("years(1, 0)", y.years(1, 0), BAD);
        Due.is("years(1, -1)", y.years(1, -1), BAD);
        Due.is("years(1, MAX)", y.years(1, MAX), BAD);
        Due.is("years refused, asked", y.asked(), 1);
        MilestonesOn z = Due.road("r3 m10");
        Due.finds("no walkers", z, 0, z.years(1, 1), NOUGHT);
        Due.is("no walkers, years(0, 1)", z.years(0, 1), BAD);
        MilestonesOn u = Due.road("r3 m12 t21");
        Due.tells("all lost: the first post", u, u.years(5, 9), 10, 0);
    }

    // ---- 39: asked
    private static void asked() {
        MilestonesOn x = Due.road("r4 m12 m30 w30 w03 t12");
        x.sees(2);
        Due.is("asked of sees", x.asked(), 1);
        x.walk(0);
        x.mark(2, 3);
        x.brings(0, 0);
        x.odds(0, 0, 1);
        x.where(1);
        x.keep(0);
        x.digest();
        x.count(1);
        Due.is("asked stays by others", x.asked(), 1);
        x.stone(0, 9);
        x.at(5, 5);
        x.lay(0, 0, 0);
        Due.is("asked stays by refused ones", x.asked(), 1);
        Due.is("asked again", x.asked(), 1);
        x.look(1);
        Due.is("asked of look", x.asked() > 0 ? 1 : 0, 1);
    }

    // ---- 40, 41: upper, lower
    private static void fractions() {
        MilestonesOn x = Due.road("r3 m10 l01 l10 l12");
        Due.is("upper before", x.upper(), 0);
        Due.is("lower before", x.lower(), 1);
        x.odds(0, 1, 1);
        Due.is("upper", x.upper(), 1);
        Due.is("lower", x.lower(), 3);
        x.odds(0, 2, 1);
        Due.is("0 by 1, upper", x.upper(), 0);
        Due.is("0 by 1, lower", x.lower(), 1);
        x.odds(0, 0, 1);
        x.mean(5);
        x.odds(0, 0, 9);
        Due.is("upper stays", x.upper(), 2);
        Due.is("lower stays", x.lower(), 3);
    }

    // ---- 42: count
    private static void count() {
        MilestonesOn x = Due.road("r6 m10 m24 m80 b01 p05 l12 t01 p50");
        x.walk(3);
        x.walk(2);
        x.text(3, 0);
        x.row(0, 1);
        x.row(5, 0);
        x.row(2, 0);
        int[] want = {6, 3, 1, 5, 2, 3, 3, 2, 2};
        for (int what = 0; what <= 8; what++) {
            Due.is("count(" + what + ")", x.count(what), want[what]);
        }
        Due.is("count(9)", x.count(9), BAD);
        Due.is("count(-1)", x.count(-1), BAD);
    }

    // ---- 43, 44: finding, findings
    private static void findings() {
        MilestonesOn x = new MilestonesOn();
        for (int f = 1; f <= 5; f++) {
            Due.is("findings(" + f + ") before", x.findings(f), 0);
        }
        x.at(0, 0);
        x.at(0, 0);
        x.row(0, 0);
        x.at(0, 0);
        x.mean(0);
        x.row(0, -5);
        int[] want = {0, 2, 1, 0, 1, 1};
        for (int f = 1; f <= 5; f++) {
            Due.is("findings(" + f + ")", x.findings(f), want[f]);
        }
        Due.is("finding", x.finding(), SIZE);
        x.row(9, 0);
        x.keep(0);
        x.count(0);
        Due.is("finding stays", x.finding(), SIZE);
        Due.is("findings(0)", x.findings(0), BAD);
        Due.is("findings(6)", x.findings(6), BAD);
        Due.is("findings(-1)", x.findings(-1), BAD);
    }

    private static long digestOf(long... values) {
        long h = 17;
        for (long v : values) {
            h = 31 * h + v;
        }
        return h;
    }

    // ---- 45: digest
    private static void digest() {
        MilestonesOn x = new MilestonesOn();
        Due.is("digest of a new one", x.digest(), digestOf(0, 0, 0, 0, 0, 0, 0, 0, 0, 0,
            -1, -1, -1, -1, -1, -1, -1, -1, -1, -1, -1, -1, -1));
        Due.write(x, 1, "r2m10m91t10w01");
        x.road(1);
        x.keep(2);
        x.law(1);
        x.walk(1);
        x.walk(0);
        x.keep(0);
        x.row(3, 2);
        x.lay(3, 1, -7);
        x.row(4, 0);
        x.sees(0);
        Due.is("digest", x.digest(), digestOf(2, 2, 1, 2, 2, 0, 2, 1, 1, 1,
            1, 1, 0, 1, 9, NONE, NONE, 1,
            4, 1, 0, 9, 0, 0, 1, 1,
            1, 0,
            1, NONE, 1, -1, 0, 1, 0,
            -1, -1, -1, 2, 0, -7, 0, -1,
            -1, 14, 'r', '2', 'm', '1', '0', 'm', '9', '1', 't', '1', '0', 'w', '0', '1', -1, -1));
        Due.is("digest, asked stays", x.asked(), 0);
        x.text(0, 1);
        x.put(0, 0, -2);
        long one = x.digest();
        x.put(0, 0, 254);
        Due.is("digest of the same byte", x.digest(), one);
        x.at(9, 9);
        x.at(5, 0);
        Due.is("digest is without findings", x.digest(), one);
    }
}
