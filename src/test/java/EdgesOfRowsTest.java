import java.util.Arrays;

/** The edges of promises 1 to 9, and of the terms on ROWS and TEXTS. */
public final class EdgesOfRowsTest {
    private static final int BAD = Edge.BAD, STATE = Edge.STATE, NONE = Edge.NONE;
    private static final int NOTHING = Edge.NOTHING, BEYOND = Edge.BEYOND, NOUGHT = Edge.NOUGHT, SIZE = Edge.SIZE;
    private static final int MAX = Edge.MAX, MIN = Edge.MIN;
    private static final int LAST_ROW = 5, LAST_TEXT = 3, LONGEST = 60;

    public static void main(String[] args) {
        terms();
        order();
        newObject();
        newObjectTells();
        row();
        lay();
        at();
        tear();
        copy();
        copyOrder();
        copyNone();
        mean();
        text();
        put();
        Edge.finish("EdgesOfRowsTest", 1, 9);
    }

    private static int[] repeated(int v, int n) {
        int[] all = new int[n];
        Arrays.fill(all, v);
        return all;
    }

    private static void terms() {
        Edge.of(Edge.TERMS, "An object is used for at most 512 calls after it has been made")
            .takes(1, ignored -> {
                MilestonesOn x = new MilestonesOn();
                x.row(0, 1);
                for (int i = 0; i < 510; i++) {
                    x.lay(0, 0, i);
                }
                return x.at(0, 0);
            })
            .takes(511, ignored -> {
                MilestonesOn x = new MilestonesOn();
                for (int i = 0; i < 511; i++) {
                    x.tear(4);
                }
                return x.findings(NOTHING);
            });
        Edge.of(Edge.TERMS, "; what later calls answer is free.").takes(1, EdgesOfRowsTest::goesOn);
        Edge.of(Edge.TERMS, "BAD -1 (a number that is none, or not as told), FULL -2, STATE -4 (not now), SPENT -6 "
            + "(more than told), FINDING -3 (finding() tells which)")
            .takes(-1, x -> MilestonesOn.BAD)
            .takes(-2, x -> MilestonesOn.FULL)
            .takes(-4, x -> MilestonesOn.STATE)
            .takes(-6, x -> MilestonesOn.SPENT)
            .takes(-3, x -> MilestonesOn.FINDING)
            .takes(-9, x -> MilestonesOn.NONE);
        Edge.of(Edge.TERMS, "What is refused changes nothing but finding(), findings().")
            .row(0, 7, 8)
            .finds(BEYOND, x -> x.lay(0, 2, 1))
            .finds(SIZE, x -> x.row(0, -1))
            .refuses(BAD, x -> x.row(0, 61));
        Edge.of(Edge.TERMS, "NONE -9 (a ROW that something was to come to stays as it is then).").road("r3 m11 w12")
            .refuses(NONE, x -> x.way(0)).row(0, 7, 8).refuses(NONE, x -> x.way(0));
        Edge.of(Edge.TERMS, "FINDINGS: 1 NOTHING (a ROW, a TEXT, a kept ROAD that is missing), 2 BEYOND (a place that "
            + "there is not), 3 UNLIKE (a WALKER of another KIND; a number that is none), 4 NOUGHT (shared among none), "
            + "5 SIZE (fewer than none; not as many as due).").road("r3 m10 w12").row(0).row(1, 10).row(2, 0, 0)
            .finds(1, x -> x.tear(3)).finds(1, x -> x.fault(3)).finds(1, x -> x.on(0)).finds(2, x -> x.at(0, 0))
            .finds(3, x -> x.mark(0, 1)).finds(3, x -> x.walks(1)).finds(3, x -> x.may(1)).finds(3, x -> x.moved(1))
            .finds(4, x -> x.mean(0)).finds(5, x -> x.text(0, -1)).finds(5, x -> x.may(0)).finds(5, x -> x.who(2));
        Edge.of(Edge.TERMS, "Sets are told by bits.").road("r7 m10 w01 w12 w01 w12 w01").row(0, 0).row(1, 1)
            .takes(126, x -> x.may(0)).takes(1, x -> x.may(1)).takes(21, x -> x.who(1));
    }

    /** Later calls may answer anything, but each must end, and none may throw. */
    private static long goesOn(MilestonesOn x) {
        Due.write(x, 0, "r7 m10 m21 m36 m46 m52 w06 c60 b25 t65 p41");
        for (int i = 0; i < 3 * 512; i++) {
            int v = i % 9 - 1;
            x.road(i % 97 == 0 ? 0 : -1);
            x.row(v, 9 * v);
            x.lay(v, i % 11, i);
            x.copy(v, 0, 5 - v, 1, i % 7);
            x.walk(v);
            x.walks(v);
            x.undo(i % 61);
            x.keep(v);
            x.on(v);
            x.earn(v);
            x.years(i, i);
            x.where(v);
            x.who(v);
            x.way(v);
            x.digest();
        }
        return 1;
    }

    private static void order() {
        Edge order = Edge.of(Edge.TERMS, "Refused is, the first of these that fits, in this order: BAD -1");
        order.refuses(BAD, x -> x.keep(3)).refuses(BAD, x -> x.look(4)).refuses(BAD, x -> x.way(6))
            .refuses(BAD, x -> x.earn(0)).refuses(BAD, x -> x.row(6, -1)).refuses(BAD, x -> x.text(4, -1))
            .refuses(BAD, x -> x.years(0, 1)).refuses(BAD, x -> x.odds(0, 0, 5)).refuses(BAD, x -> x.on(3));
        order.road("r7m75m41m26m16m66l10p51w56b60").refuses(Edge.SPENT, x -> x.way(0)).refuses(BAD, x -> x.way(6));
        Edge full = order.road("r2 m10 b01").row(0, new int[LONGEST]).given(x -> x.walks(0)).row(1, 1).row(2, 0);
        full.refuses(Edge.FULL, x -> x.walk(0)).refuses(BAD, x -> x.walk(1)).refuses(BAD, x -> x.mark(1, 1));
        Edge.of(Edge.TERMS, "unless a call says so otherwise");
        full.finds(Edge.UNLIKE, x -> x.walks(1)).finds(NOTHING, x -> x.walks(3)).refuses(Edge.FULL, x -> x.walks(2))
            .finds(NOTHING, x -> x.road(1)).given(x -> x.text(1, 0)).refuses(STATE, x -> x.road(1));
    }

    private static void newObject() {
        Edge none = Edge.of(1, "No ROWS, TEXTS, POSTS, STONES, WALKERS; LAW 0.");
        for (int what = 0; what <= 8; what++) {
            int one = what;
            none.takes(0, x -> x.count(one));
        }
        for (int r = 0; r <= LAST_ROW; r++) {
            int one = r;
            none.finds(NOTHING, x -> x.at(one, 0));
        }
        for (int t = 0; t <= LAST_TEXT; t++) {
            int one = t;
            none.finds(NOTHING, x -> x.fault(one));
        }
        none.takes(0, x -> x.law(2)).refuses(BAD, x -> x.stone(0, 0)).refuses(BAD, x -> x.walker(0, 0))
            .refuses(BAD, x -> x.sees(0)).refuses(STATE, x -> x.keep(0)).finds(NOTHING, x -> x.on(0))
            .finds(NOTHING, x -> x.on(1)).finds(NOTHING, x -> x.on(2));
    }

    /** Without calls ahead: Edge's own would tell something. */
    private static void newObjectTells() {
        Edge told = Edge.of(39, "0 before.");
        told.takes(0, x -> new MilestonesOn().asked());
        Edge.of(40, "0 before.").takes(0, x -> new MilestonesOn().upper());
        Edge.of(41, "1 before.").takes(1, x -> new MilestonesOn().lower());
        Edge.of(43, "(0 before any)").takes(0, x -> new MilestonesOn().finding());
        for (int f = 1; f <= 5; f++) {
            int one = f;
            Edge.of(44, "How often a FINDING (1 .. 5) was answered.")
                .takes(0, x -> new MilestonesOn().findings(one));
        }
        Edge.of(1, "No ROWS").takes(0, x -> {
            x.row(0, 3);
            x.text(0, 3);
            MilestonesOn other = new MilestonesOn();
            return other.count(6) + other.count(7);
        });
    }

    private static void row() {
        Edge there = Edge.of(2, "A ROW is there with n ints 0: n.");
        there.lays(0, 0, new int[0], x -> x.row(0, 0))
            .lays(1, 0, new int[1], x -> x.row(0, 1))
            .lays(59, 0, new int[59], x -> x.row(0, 59))
            .lays(LONGEST, LAST_ROW, new int[LONGEST], x -> x.row(LAST_ROW, LONGEST))
            .takes(1, x -> x.row(0, 0) + x.count(6));
        there.row(0, repeated(9, LONGEST)).lays(2, 0, new int[2], x -> x.row(0, 2));
        there.row(0, 9, 9).lays(LONGEST, 0, new int[LONGEST], x -> x.row(0, LONGEST))
            .lays(0, 0, new int[0], x -> x.row(0, 0));
        Edge.ofTerms(2, "ROWS 0 .. 5 are rows of 0 to 60 ints")
            .refuses(BAD, x -> x.row(-1, 1)).refuses(BAD, x -> x.row(6, 1))
            .refuses(BAD, x -> x.row(MIN, 1)).refuses(BAD, x -> x.row(MAX, 1))
            .takes(6, x -> {
                for (int r = 0; r <= LAST_ROW; r++) {
                    x.row(r, 0);
                }
                return x.count(6);
            });
        Edge.of(2, "BAD: also n above 60; SIZE: below 0.").row(0, 4, 5)
            .refuses(BAD, x -> x.row(0, 61)).refuses(BAD, x -> x.row(0, MAX)).refuses(BAD, x -> x.row(1, 61))
            .finds(SIZE, x -> x.row(0, -1)).finds(SIZE, x -> x.row(0, MIN)).finds(SIZE, x -> x.row(1, -1))
            .refuses(BAD, x -> x.row(6, -1)).refuses(BAD, x -> x.row(-1, -1)).refuses(BAD, x -> x.row(6, 61));
    }

    /** A call on a place of a ROW. */
    private interface OnPlace {
        int call(MilestonesOn x, int r, int i);
    }

    /** What lay() and at() refuse alike. */
    private static void places(int promise, OnPlace on) {
        Edge.of(promise, "BEYOND").row(2, 5, 6)
            .finds(BEYOND, x -> on.call(x, 2, 2)).finds(BEYOND, x -> on.call(x, 2, -1))
            .finds(BEYOND, x -> on.call(x, 2, MAX)).finds(BEYOND, x -> on.call(x, 2, MIN))
            .finds(BEYOND, x -> on.call(x, 2, 59)).finds(BEYOND, x -> on.call(x, 2, NONE));
        Edge.of(promise, "BEYOND").row(2).finds(BEYOND, x -> on.call(x, 2, 0));
        Edge.of(promise, "BEYOND").row(2, repeated(1, LONGEST))
            .takes(1, x -> on.call(x, 2, 59)).finds(BEYOND, x -> on.call(x, 2, 60));
        Edge.of(promise, "NOTHING").row(2, 5, 6)
            .finds(NOTHING, x -> on.call(x, 3, 0)).finds(NOTHING, x -> on.call(x, 3, -1))
            .finds(NOTHING, x -> on.call(x, LAST_ROW, 60));
        Edge.of(promise, "NOTHING").row(2, 5, 6).given(x -> x.tear(2)).finds(NOTHING, x -> on.call(x, 2, 0));
        Edge.of(promise, "BAD").row(2, 5, 6)
            .refuses(BAD, x -> on.call(x, -1, 0)).refuses(BAD, x -> on.call(x, 6, 0))
            .refuses(BAD, x -> on.call(x, 6, -1)).refuses(BAD, x -> on.call(x, MIN, MIN))
            .refuses(BAD, x -> on.call(x, MAX, MAX));
    }

    private static void lay() {
        places(3, (x, r, i) -> x.lay(r, i, 1));
        Edge was = Edge.of(3, "Place i of a ROW is v: what it was, told by asked(): 1.").row(2, 5, MIN);
        was.tells(1, 5, x -> x.lay(2, 0, 9)).tells(1, MIN, x -> x.lay(2, 1, 9))
            .lays(1, 2, new int[] {MAX, MIN}, x -> x.lay(2, 0, MAX))
            .lays(1, 2, new int[] {5, NONE}, x -> x.lay(2, 1, NONE))
            .tells(1, 9, x -> x.lay(2, 0, 9) * x.lay(2, 0, 9));
        Edge.of(3, "Place i of a ROW is v").row(0, 1).row(LAST_ROW, repeated(3, LONGEST))
            .tells(1, 1, x -> x.lay(0, 0, 2)).tells(1, 3, x -> x.lay(LAST_ROW, 59, 2));
    }

    private static void at() {
        places(4, MilestonesOn::at);
        Edge.of(4, "Place i of a ROW, told by asked(): 1.").row(0, MAX, -1).row(LAST_ROW, repeated(MIN, LONGEST))
            .asks(1, MAX, x -> x.at(0, 0)).asks(1, -1, x -> x.at(0, 1))
            .asks(1, MIN, x -> x.at(LAST_ROW, 0)).asks(1, MIN, x -> x.at(LAST_ROW, 59));
    }

    private static void tear() {
        Edge torn = Edge.of(5, "A ROW is missing: 1.").row(0, 1, 2).row(LAST_ROW);
        torn.takes(1, x -> x.tear(0)).takes(1, x -> x.tear(LAST_ROW))
            .takes(1, x -> x.tear(0) * x.count(6)).takes(0, x -> x.tear(0) * x.tear(LAST_ROW) * x.count(6));
        torn.given(x -> x.tear(0)).finds(NOTHING, x -> x.tear(0)).finds(NOTHING, x -> x.mean(0))
            .lays(1, 0, new int[1], x -> x.row(0, 1));
        Edge.of(5, "BAD; NOTHING.").row(0, 1)
            .finds(NOTHING, x -> x.tear(1)).finds(NOTHING, x -> x.tear(LAST_ROW))
            .refuses(BAD, x -> x.tear(-1)).refuses(BAD, x -> x.tear(6))
            .refuses(BAD, x -> x.tear(MIN)).refuses(BAD, x -> x.tear(MAX));
    }

    private static void copy() {
        Edge some = Edge.of(6, "n places of a ROW, from one on, come to those of another one (perhaps itself) from "
            + "one on, as if taken ahead: 1.").row(0, 1, 2, 3, 4, 5).row(LAST_ROW, 7, 8, 9);
        some.lays(1, LAST_ROW, new int[] {3, 4, 5}, x -> x.copy(0, 2, LAST_ROW, 0, 3))
            .lays(1, 0, new int[] {1, 2, 3, 4, 5}, x -> x.copy(0, 2, LAST_ROW, 0, 3))
            .lays(1, 0, new int[] {1, 2, 3, 4, 7}, x -> x.copy(LAST_ROW, 0, 0, 4, 1))
            .lays(1, 0, new int[] {1, 1, 2, 3, 4}, x -> x.copy(0, 0, 0, 1, 4))
            .lays(1, 0, new int[] {2, 3, 4, 5, 5}, x -> x.copy(0, 1, 0, 0, 4))
            .lays(1, 0, new int[] {1, 2, 3, 4, 5}, x -> x.copy(0, 0, 0, 0, 5));
        Edge.of(6, "BEYOND: not so many there").row(0, repeated(4, LONGEST)).row(1, repeated(6, LONGEST))
            .lays(1, 1, repeated(4, LONGEST), x -> x.copy(0, 0, 1, 0, LONGEST))
            .finds(BEYOND, x -> x.copy(0, 0, 1, 0, 61)).finds(BEYOND, x -> x.copy(0, 1, 1, 0, LONGEST))
            .finds(BEYOND, x -> x.copy(0, 0, 1, 1, LONGEST)).finds(BEYOND, x -> x.copy(0, 1, 1, 0, MAX))
            .finds(BEYOND, x -> x.copy(0, MAX, 1, 0, MAX)).finds(BEYOND, x -> x.copy(0, 0, 1, MAX, 1))
            .finds(BEYOND, x -> x.copy(0, MIN, 1, 0, 1)).finds(BEYOND, x -> x.copy(0, 0, 1, MIN, MAX));
        Edge.of(6, "BEYOND: not so many there").row(0, 1, 2, 3).row(1, 7, 8)
            .takes(1, x -> x.copy(0, 1, 1, 0, 2)).finds(BEYOND, x -> x.copy(0, 2, 1, 0, 2))
            .takes(1, x -> x.copy(0, 0, 1, 0, 2)).finds(BEYOND, x -> x.copy(0, 0, 1, 0, 3))
            .finds(BEYOND, x -> x.copy(0, 3, 1, 0, 1)).finds(BEYOND, x -> x.copy(0, 0, 1, 2, 1))
            .finds(BEYOND, x -> x.copy(0, -1, 1, 0, 2)).finds(BEYOND, x -> x.copy(0, 0, 1, -1, 2))
            .finds(BEYOND, x -> x.copy(0, -1, 0, 0, 1));
    }

    private static void copyOrder() {
        Edge.of(6, "BAD; SIZE: n below 0; NOTHING: either; BEYOND").row(0, 1, 2, 3).row(1, 7, 8)
            .refuses(BAD, x -> x.copy(-1, 0, 1, 0, 1)).refuses(BAD, x -> x.copy(6, 0, 1, 0, 1))
            .refuses(BAD, x -> x.copy(0, 0, -1, 0, 1)).refuses(BAD, x -> x.copy(0, 0, 6, 0, 1))
            .refuses(BAD, x -> x.copy(0, 0, MAX, 0, 1)).refuses(BAD, x -> x.copy(MIN, 0, 1, 0, 1))
            .finds(SIZE, x -> x.copy(0, 0, 1, 0, -1)).finds(SIZE, x -> x.copy(0, 0, 1, 0, MIN))
            .finds(NOTHING, x -> x.copy(2, 0, 1, 0, 1)).finds(NOTHING, x -> x.copy(0, 0, 2, 0, 1))
            .finds(NOTHING, x -> x.copy(2, 0, 3, 0, 0)).finds(NOTHING, x -> x.copy(2, 0, 2, 0, 0));
        Edge.of(6, "(In this order.)").row(0, 1, 2, 3).row(1, 7, 8)
            .refuses(BAD, x -> x.copy(6, 0, 1, 0, -1)).refuses(BAD, x -> x.copy(0, 0, 6, 0, -1))
            .refuses(BAD, x -> x.copy(2, 0, 6, 0, 1)).refuses(BAD, x -> x.copy(0, 9, -1, 9, 1))
            .finds(SIZE, x -> x.copy(2, 0, 1, 0, -1)).finds(SIZE, x -> x.copy(0, 0, 2, 0, -1))
            .finds(SIZE, x -> x.copy(0, 9, 1, -1, -1)).finds(SIZE, x -> x.copy(0, 4, 1, 3, -1))
            .finds(NOTHING, x -> x.copy(0, 9, 2, 0, 1)).finds(NOTHING, x -> x.copy(2, 0, 1, -1, 1))
            .finds(NOTHING, x -> x.copy(2, 0, 1, 0, 61));
    }

    private static void copyNone() {
        Edge.of(6, "(also with n 0, if i, j is below 0, or above its size)").row(0, 1, 2, 3).row(1).row(2, 7, 8)
            .takes(1, x -> x.copy(0, 0, 2, 0, 0)).takes(1, x -> x.copy(0, 3, 2, 2, 0))
            .takes(1, x -> x.copy(1, 0, 1, 0, 0)).takes(1, x -> x.copy(0, 3, 1, 0, 0))
            .finds(BEYOND, x -> x.copy(0, 4, 2, 0, 0)).finds(BEYOND, x -> x.copy(0, 0, 2, 3, 0))
            .finds(BEYOND, x -> x.copy(0, -1, 2, 0, 0)).finds(BEYOND, x -> x.copy(0, 0, 2, -1, 0))
            .finds(BEYOND, x -> x.copy(1, 1, 2, 0, 0)).finds(BEYOND, x -> x.copy(0, 0, 1, 1, 0))
            .finds(BEYOND, x -> x.copy(0, MAX, 2, 0, 0)).finds(BEYOND, x -> x.copy(0, 0, 2, MIN, 0))
            .lays(1, 2, new int[] {7, 8}, x -> x.copy(0, 1, 2, 1, 0));
        Edge.of(6, "above its size").row(0, repeated(1, LONGEST))
            .takes(1, x -> x.copy(0, 60, 0, 60, 0)).finds(BEYOND, x -> x.copy(0, 61, 0, 60, 0));
    }

    private static void mean() {
        Edge mean = Edge.of(7, "The mean of a ROW's ints, cut, told by asked(): 1.");
        mean.row(0, 8).asks(1, 8, x -> x.mean(0));
        mean.row(0, 1, 2).asks(1, 1, x -> x.mean(0));
        mean.row(0, 0, 1).asks(1, 0, x -> x.mean(0));
        mean.row(0, -1, 0).asks(1, 0, x -> x.mean(0));
        mean.row(0, -2, -3).asks(1, -2, x -> x.mean(0));
        mean.row(0, MAX, MIN).asks(1, 0, x -> x.mean(0));
        mean.row(0, MAX, MAX).asks(1, MAX, x -> x.mean(0));
        mean.row(LAST_ROW, repeated(MAX, LONGEST)).asks(1, MAX, x -> x.mean(LAST_ROW));
        mean.row(LAST_ROW, repeated(MIN, LONGEST)).asks(1, MIN, x -> x.mean(LAST_ROW));
        mean.row(0, MAX, 1).row(0, 3).asks(1, 3, x -> x.mean(0));
        Edge.of(7, "BAD; NOTHING; NOUGHT.").row(0).row(1, 4)
            .finds(NOUGHT, x -> x.mean(0)).finds(NOTHING, x -> x.mean(2)).finds(NOTHING, x -> x.mean(LAST_ROW))
            .refuses(BAD, x -> x.mean(-1)).refuses(BAD, x -> x.mean(6))
            .refuses(BAD, x -> x.mean(MIN)).refuses(BAD, x -> x.mean(MAX));
    }

    private static void text() {
        Edge there = Edge.of(8, "A TEXT is there with n blanks: n.");
        there.takes(0, x -> x.text(0, 0)).takes(LONGEST, x -> x.text(LAST_TEXT, LONGEST))
            .takes(1, x -> x.text(0, 0) + x.count(7))
            .takes(1032 * LONGEST, x -> {
                x.text(LAST_TEXT, LONGEST);
                int sum = 0;
                for (int i = 0; i < LONGEST; i++) {
                    sum += x.put(LAST_TEXT, i, 0);
                }
                return sum;
            });
        there.text(1, "rm").takes(1032, x -> x.text(1, 1) * x.put(1, 0, 5)).takes(4, x -> x.text(1, 2) + x.fault(1));
        there.given(x -> x.text(1, 0)).finds(BEYOND, x -> x.put(1, 0, 5));
        Edge.ofTerms(8, "TEXTS 0 .. 3 rows of 0 to 60 bytes, or missing (at first)")
            .refuses(BAD, x -> x.text(-1, 1)).refuses(BAD, x -> x.text(4, 1))
            .refuses(BAD, x -> x.text(MIN, 1)).refuses(BAD, x -> x.text(MAX, 1))
            .takes(4, x -> x.text(0, 1) * x.text(1, 1) * x.text(2, 1) * x.text(3, 1) * x.count(7));
        Edge.of(8, "BAD: also n above 60; SIZE: below 0.").text(0, "r2")
            .refuses(BAD, x -> x.text(0, 61)).refuses(BAD, x -> x.text(0, MAX)).refuses(BAD, x -> x.text(1, 61))
            .finds(SIZE, x -> x.text(0, -1)).finds(SIZE, x -> x.text(0, MIN)).finds(SIZE, x -> x.text(1, -1))
            .refuses(BAD, x -> x.text(4, -1)).refuses(BAD, x -> x.text(-1, -1)).refuses(BAD, x -> x.text(4, 61));
    }

    private static void put() {
        Edge cut = Edge.of(9, "Byte i of a TEXT is v, cut to a byte (-128 .. 127): what it was, and 1000 more.")
            .given(x -> x.text(1, 2));
        int[][] cuts = {{0, 0}, {127, 127}, {128, -128}, {255, -1}, {256, 0}, {-1, -1}, {-128, -128}, {-129, 127},
            {MAX, -1}, {MIN, 0}, {370, 114}};
        for (int[] one : cuts) {
            cut.takes(1000 + one[1], x -> x.put(1, 0, one[0]) / 1032 * x.put(1, 0, 1));
        }
        cut.takes(1032, x -> x.put(1, 0, 5)).takes(1032, x -> x.put(1, 1, 5))
            .takes(1032, x -> x.put(1, 0, 5) / 1032 * x.put(1, 1, 5)).stays(1032, x -> x.put(1, 0, 32));
        Edge.of(9, "BAD; NOTHING; BEYOND.").text(1, "r2").given(x -> x.text(2, 0)).given(x -> x.text(LAST_TEXT, LONGEST))
            .finds(BEYOND, x -> x.put(1, 2, 1)).finds(BEYOND, x -> x.put(1, -1, 1)).finds(BEYOND, x -> x.put(2, 0, 1))
            .takes(1032, x -> x.put(LAST_TEXT, 59, 1)).finds(BEYOND, x -> x.put(LAST_TEXT, 60, 1))
            .finds(BEYOND, x -> x.put(1, MAX, 1)).finds(BEYOND, x -> x.put(1, MIN, 1))
            .finds(NOTHING, x -> x.put(0, 0, 1)).finds(NOTHING, x -> x.put(0, -1, 1)).finds(NOTHING, x -> x.put(0, 60, 1))
            .refuses(BAD, x -> x.put(-1, 0, 1)).refuses(BAD, x -> x.put(4, 0, 1)).refuses(BAD, x -> x.put(4, -1, 1))
            .refuses(BAD, x -> x.put(MIN, 0, 1)).refuses(BAD, x -> x.put(MAX, MAX, 1));
    }
}
