import java.util.Arrays;

/** The edges of promises 16 to 27, and of the terms on WALKS. */
public final class EdgesOfWalksTest {
    private static final int BAD = Edge.BAD, FULL = Edge.FULL, STATE = Edge.STATE, NONE = Edge.NONE;
    private static final int NOTHING = Edge.NOTHING, UNLIKE = Edge.UNLIKE, SIZE = Edge.SIZE;
    private static final int MAX = Edge.MAX, MIN = Edge.MIN;
    private static final int MOST = 60, LAST_ROW = 5;

    public static void main(String[] args) {
        walk();
        walkOfWalker();
        walkOfCart();
        walkOfBoth();
        walkOfLame();
        walkOfThief();
        walkOfPilgrim();
        pays();
        undo();
        walks();
        walksFull();
        where();
        apart();
        keep();
        on();
        sees();
        may();
        mayRefuses();
        standings();
        look();
        Edge.finish("EdgesOfWalksTest", 16, 27);
    }

    /** A ROW of n WALKS of WALKER 0 is done. */
    private static Edge walkedOften(Edge one, int n) {
        return one.given(x -> {
            x.row(4, n);
            x.walks(4);
            x.tear(4);
        });
    }

    /** One WALK of WALKER 0: what it pays, and where all STONES are then. */
    private static void walks(String sentence, String road, int law, int pay, int... posts) {
        Edge.ofTerms(16, sentence).road(road).given(x -> x.law(law)).lays(pay, 0, posts, x -> {
            int paid = x.walk(0);
            x.where(0);
            return paid;
        });
    }

    // ---- 16: walk

    private static void walk() {
        Edge one = Edge.of(16, "A WALK of a WALKER: its PAY. BAD; FULL: 60 WALKS.").road("r2 m10 b01 w10 w01 w01 p01");
        one.takes(2, x -> x.walk(0)).takes(2, x -> x.walk(4)).takes(1, x -> x.walk(3)).takes(0, x -> x.walk(1))
            .takes(1, x -> x.walk(1) + x.count(4)).refuses(BAD, x -> x.walk(5)).refuses(BAD, x -> x.walk(-1))
            .refuses(BAD, x -> x.walk(MAX)).refuses(BAD, x -> x.walk(MIN));
        walkedOften(one, 59).takes(2, x -> x.walk(0)).takes(60, x -> x.walk(0) / 2 * x.count(4))
            .refuses(BAD, x -> x.walk(5));
        walkedOften(one, MOST).refuses(FULL, x -> x.walk(0)).refuses(FULL, x -> x.walk(1)).refuses(FULL, x -> x.walk(4))
            .refuses(BAD, x -> x.walk(5)).refuses(BAD, x -> x.walk(-1))
            .given(x -> x.undo(59)).takes(2, x -> x.walk(0));
        Edge.of(16, "BAD").road("r2 m10").refuses(BAD, x -> x.walk(0));
        Edge.of(16, "BAD").refuses(BAD, x -> x.walk(0));
    }

    private static void walkOfWalker() {
        String first = "A WALK of a WALKER from POST a to POST b: at the first POST on the way (a, .., the one ahead of "
            + "b) at which a STONE is, one STONE (by the LAW) is taken to the next POST on the way, and set down";
        walks(first, "r7 m20 m31 w06", 0, 2, 1, 1);
        walks(first, "r7 m25 m36 w06", 0, 2, 6, 6);
        walks(first, "r7 m23 m34 w14", 0, 2, 4, 4);
        walks(first, "r7 m26 m30 w60", 0, 2, 5, 0);
        walks(first, "r7 m21 m36 w50", 0, 2, 0, 6);
        walks(first, "r7 m20 m30 w01", 0, 2, 1, 0);
        walks(first, "r7 m20 m30 w01", 1, 3, 0, 1);
        String none = "if there is none, nothing is moved";
        walks(none, "r7 w06", 0, 0);
        walks(none, "r7 m26 w06", 0, 0, 6);
        walks(none, "r7 m20 w60", 0, 0, 0);
        walks(none, "r7 m20 m35 w15", 0, 0, 0, 5);
        walks(none, "r7 m26 m30 w51", 0, 0, 6, 0);
        Edge.ofTerms(16, none).road("r7 m20 t01 w06").walked(0).takes(0, x -> x.walk(1)).takes(2, x -> {
            x.walk(1);
            return x.count(4);
        });
    }

    private static void walkOfCart() {
        String three = "A CART takes three there (one behind the other by the LAW; all that there are, if fewer).";
        walks(three, "r4 m13 c03", 0, 0, 3);
        walks(three, "r4 m10 m21 c03", 0, 1, 1, 1);
        walks(three, "r4 m10 m20 m31 c03", 0, 3, 1, 1, 1);
        walks(three, "r4 m10 m20 m30 c03", 0, 6, 1, 1, 1);
        walks(three, "r4 m10 m20 m30 m40 c03", 0, 6, 1, 1, 1, 0);
        walks(three, "r4 m10 m20 m30 m40 m50 c03", 0, 6, 1, 1, 1, 0, 0);
        walks(three, "r4 m10 m20 m30 m40 m50 c03", 1, 12, 0, 0, 1, 1, 1);
        walks(three, "r4 m10 m20 m30 m40 m50 c03", 2, 12, 0, 0, 1, 1, 1);
        walks(three, "r4 m33 m13 m23 m43 c30", 2, 6, 2, 2, 2, 3);
        walks(three, "r4 m12 m22 m32 m42 c30", 1, 9, 2, 1, 1, 1);
    }

    private static void walkOfBoth() {
        String back = "A BOTH then walks back from b to a likewise (the STONES as they are by then).";
        walks(back, "r4 b03", 0, 0);
        walks(back, "r4 m10 b01", 0, 2, 0);
        walks(back, "r4 m10 b02", 0, 2, 0);
        walks(back, "r4 m13 b03", 0, 1, 2);
        walks(back, "r4 m20 m11 b01", 0, 3, 1, 0);
        walks(back, "r4 m10 m21 b01", 0, 2, 0, 1);
        walks(back, "r4 m10 m21 b01", 1, 3, 1, 0);
        walks(back, "r4 m10 m22 m33 b13", 0, 4, 0, 2, 3);
        walks(back, "r4 m10 m22 m33 b13", 1, 5, 0, 3, 2);
        walks(back, "r4 m13 m20 b30", 0, 3, 2, 1);
        walks(back, "r4 m92 m13 b12", 0, 9, 1, 3);
        walks(back, "r4 m90 m13 b12", 0, 0, 0, 3);
    }

    private static void walkOfLame() {
        String lame = "A LAME one walks one POST only (from a to the next one towards b).";
        walks(lame, "r4 m10 l03", 0, 1, 1);
        walks(lame, "r4 m11 m22 l03", 0, 0, 1, 2);
        walks(lame, "r4 m13 l30", 0, 1, 2);
        walks(lame, "r4 m12 l30", 0, 0, 2);
        walks(lame, "r4 m10 m20 m30 l01", 1, 3, 0, 0, 1);
    }

    private static void walkOfThief() {
        String thief = "A THIEF takes as a LAME one does, but by LAW 1 always, and what it takes is LOST.";
        for (int law = 0; law <= 2; law++) {
            walks(thief, "r7 m10 m90 m70 t06", law, 9, 0, NONE, 0);
            walks(thief, "r7 m10 m70 m20 t06", law, 7, 0, NONE, 0);
            walks(thief, "r7 m66 m16 t60", law, 6, NONE, 6);
            walks(thief, "r7 m11 m22 t06", law, 0, 1, 2);
        }
        walks("PAY of a WALK: the NUMBERS of all STONES moved in it (LOST ones, too; as often as they are), together.",
            "r2 m90 t01", 0, 9, NONE);
        Edge.ofTerms(16, "A STONE is at a POST, or LOST.").road("r7 m10 t06 w06 w60 b06 p60").walked(0)
            .takes(0, x -> x.walk(0)).takes(0, x -> x.walk(1)).takes(0, x -> x.walk(2)).takes(0, x -> x.walk(3))
            .takes(0, x -> x.walk(4));
    }

    private static void walkOfPilgrim() {
        String far = "A PILGRIM takes the STONE all the way to b (back: to a) in place of to the next POST.";
        walks(far, "r7 m20 m15 p06", 0, 4, 0, 5);
        walks(far, "r7 m20 m16 p06", 0, 3, 6, 0);
        walks(far, "r7 m10 p06", 0, 2, 0);
        walks(far, "r7 m15 p06", 0, 2, 0);
        walks(far, "r7 m16 p06", 0, 1, 0);
        walks(far, "r7 m16 m20 p60", 0, 2, 6, 0);
        walks(far, "r7 m26 m10 p60", 0, 3, 0, 6);
        walks(far, "r7 m13 m34 m20 p15", 0, 2, 1, 4, 0);
        walks(far, "r7 m10 m21 p01", 1, 3, 1, 0);
    }

    // ---- 17: pays

    private static void pays() {
        Edge one = Edge.of(17, "What a WALK of a WALKER would pay now; how far all would be APART then by asked(). "
            + "BAD.").road("r4 m31 m90 w13 t01 w30 b01 c01");
        one.asks(3, 0, x -> x.pays(0)).asks(9, 11, x -> x.pays(1)).asks(3, 2, x -> x.pays(2)).asks(12, 2, x -> x.pays(3))
            .asks(9, 1, x -> x.pays(4)).refuses(BAD, x -> x.pays(5)).refuses(BAD, x -> x.pays(-1))
            .refuses(BAD, x -> x.pays(MAX)).refuses(BAD, x -> x.pays(MIN));
        Edge.of(17, "What a WALK of a WALKER would pay now").road("r4 m31 w01").asks(0, 1, x -> x.pays(0));
        walkedOften(Edge.of(17, "What a WALK of a WALKER would pay now").road("r2 m10 b01 w01"), MOST)
            .asks(2, 0, x -> x.pays(0)).asks(1, 1, x -> x.pays(1));
        Edge.of(17, "BAD.").refuses(BAD, x -> x.pays(0)).road("r2 m10").refuses(BAD, x -> x.pays(0));
    }

    // ---- 18: undo

    private static void undo() {
        String from = "WALKS from number n on (n 0 to how many there are: then 0) are undone: how many.";
        Edge three = Edge.of(18, from).road("r6 m10 m21 w05 t10 b05").given(x -> x.law(1)).walked(0, 1, 2);
        three.takes(0, x -> x.undo(3)).takes(1, x -> x.undo(2)).takes(2, x -> x.undo(1)).takes(3, x -> x.undo(0))
            .stays(0, x -> x.undo(3)).refuses(BAD, x -> x.undo(4)).refuses(BAD, x -> x.undo(-1))
            .refuses(BAD, x -> x.undo(MAX)).refuses(BAD, x -> x.undo(MIN)).refuses(BAD, x -> x.undo(60));
        three.given(x -> x.undo(2)).takes(2, x -> x.count(4)).refuses(BAD, x -> x.undo(3)).takes(1, x -> x.count(2))
            .lays(1, 0, new int[] {1, NONE}, x -> x.where(0));
        three.given(x -> x.undo(1)).lays(0, 0, new int[] {1, 1}, x -> x.where(0));
        three.given(x -> x.undo(0)).lays(0, 0, new int[] {0, 1}, x -> x.where(0)).takes(0, x -> x.undo(0));
        Edge.of(18, "(What they paid, moved, too; the LAW stays.)").road("r6 m10 m21 w05 t10 b05").given(x -> x.law(1))
            .walked(0, 1, 2).given(x -> x.law(2)).given(x -> x.undo(1))
            .asks(1, 1, x -> x.walker(0, 3)).asks(1, 0, x -> x.walker(1, 3)).asks(1, 0, x -> x.walker(2, 3))
            .asks(1, 1, x -> x.stone(0, 3)).asks(1, 0, x -> x.stone(1, 3)).takes(2, x -> x.law(0));
        Edge.of(18, "(What they paid, moved, too").road("r6 m10 w05 b01").walked(0, 0).given(x -> x.undo(0))
            .walked(0).asks(1, 1, x -> x.stone(0, 3)).asks(1, 1, x -> x.walker(0, 3)).given(x -> x.undo(0))
            .walked(1).asks(1, 2, x -> x.stone(0, 3)).asks(1, 2, x -> x.walker(1, 3)).asks(1, 0, x -> x.walker(0, 3));
        walkedOften(Edge.of(18, from).road("r2 m10 b01"), MOST)
            .takes(60, x -> x.undo(0)).takes(1, x -> x.undo(59)).takes(0, x -> x.undo(60)).refuses(BAD, x -> x.undo(61));
        Edge.of(18, "the LAW stays.) BAD.").takes(0, x -> x.undo(0)).refuses(BAD, x -> x.undo(1))
            .refuses(BAD, x -> x.undo(-1)).refuses(BAD, x -> x.undo(NONE));
    }

    // ---- 19: walks

    private static void walks() {
        Edge one = Edge.of(19, "WALKS by a ROW of WALKERS are done: all PAY. BAD; NOTHING; UNLIKE: no WALKER; FULL")
            .road("r4 m10 m70 w03 c03");
        one.row(LAST_ROW, 0, 1, 0).takes(9, x -> x.walks(LAST_ROW)).takes(12, x -> x.walks(LAST_ROW) + x.count(4));
        one.row(0).stays(0, x -> x.walks(0));
        one.row(0, 2).finds(UNLIKE, x -> x.walks(0));
        one.row(0, -1).finds(UNLIKE, x -> x.walks(0));
        one.row(0, 0, 1, 2).finds(UNLIKE, x -> x.walks(0));
        one.row(0, MIN, 0).finds(UNLIKE, x -> x.walks(0));
        one.row(0, 0, MAX).finds(UNLIKE, x -> x.walks(0));
        one.row(0, 0).finds(NOTHING, x -> x.walks(1)).finds(NOTHING, x -> x.walks(LAST_ROW))
            .refuses(BAD, x -> x.walks(-1)).refuses(BAD, x -> x.walks(6)).refuses(BAD, x -> x.walks(MAX))
            .refuses(BAD, x -> x.walks(MIN));
        Edge bare = Edge.of(19, "UNLIKE: no WALKER").road("r4 m10");
        bare.row(0, 0).finds(UNLIKE, x -> x.walks(0));
        bare.row(0).stays(0, x -> x.walks(0));
        Edge.of(19, "UNLIKE: no WALKER").row(0, 0).row(1).finds(UNLIKE, x -> x.walks(0)).stays(0, x -> x.walks(1));
        Edge.of(19, "UNLIKE: no WALKER").road("r4 m10 w01 w12 w23 w32 w21").row(0, 4, 0, 1, 2, 3)
            .takes(4, x -> x.walks(0));
    }

    private static void walksFull() {
        Edge one = Edge.of(19, "FULL: more than 60 in all. (FULL last; then none is done.)").road("r2 m10 b01 t10");
        one.row(0, new int[MOST]).takes(120, x -> x.walks(0)).takes(60, x -> x.walks(0) / 120 * x.count(4));
        one.walked(0).row(0, new int[MOST]).refuses(FULL, x -> x.walks(0));
        one.walked(0).row(0, new int[59]).takes(118, x -> x.walks(0));
        Edge full = walkedOften(one, MOST).row(0, 0).row(1).row(2, 2).row(3, 0, -1);
        full.refuses(FULL, x -> x.walks(0)).stays(0, x -> x.walks(1)).finds(UNLIKE, x -> x.walks(2))
            .finds(UNLIKE, x -> x.walks(3)).finds(NOTHING, x -> x.walks(4)).refuses(BAD, x -> x.walks(6));
        Edge last = walkedOften(one, 59).row(0, 0).row(1, 0, 0).row(2, 0, 2);
        last.takes(2, x -> x.walks(0)).refuses(FULL, x -> x.walks(1)).finds(UNLIKE, x -> x.walks(2));
        int[] odd = new int[MOST];
        odd[59] = 2;
        one.walked(0).row(0, odd).finds(UNLIKE, x -> x.walks(0));
    }

    // ---- 20: where

    private static void where() {
        String come = "POSTS of all STONES come to a ROW (anew; NONE: LOST): how many are LOST. BAD.";
        Edge five = Edge.of(20, come).road("r7 m10 m21 m36 m46 m52 t65 t01");
        five.lays(0, 0, new int[] {0, 1, 6, 6, 2}, x -> x.where(0))
            .lays(0, LAST_ROW, new int[] {0, 1, 6, 6, 2}, x -> x.where(LAST_ROW))
            .refuses(BAD, x -> x.where(-1)).refuses(BAD, x -> x.where(6)).refuses(BAD, x -> x.where(MAX))
            .refuses(BAD, x -> x.where(MIN));
        five.row(2, Arrays.copyOf(new int[] {9, 9, 9, 9, 9, 9}, MOST))
            .lays(0, 2, new int[] {0, 1, 6, 6, 2}, x -> x.where(2));
        five.row(2).lays(0, 2, new int[] {0, 1, 6, 6, 2}, x -> x.where(2));
        five.walked(0, 1, 0).lays(3, 1, new int[] {NONE, 1, NONE, NONE, 2}, x -> x.where(1));
        Edge.of(20, come).lays(0, 3, new int[0], x -> x.where(3)).row(3, 5, 5)
            .lays(0, 3, new int[0], x -> x.where(3));
        Edge.of(20, come).road("r7 w01").lays(0, 3, new int[0], x -> x.where(3));
        Edge.of(20, come).road("r2 m11 t10").walked(0).lays(1, 3, new int[] {NONE}, x -> x.where(3));
    }

    // ---- 21: apart

    private static void apart() {
        String far = "How far APART all are; how many STONES are at HOME by asked().";
        Edge.of(21, far).asks(0, 0, x -> x.apart());
        Edge.of(21, far).road("r7").asks(0, 0, x -> x.apart());
        Edge.of(21, far).road("r7 m10 m21 m32 m43 m76").asks(0, 5, x -> x.apart());
        Edge.of(21, far).road("r7 m16 m26 m36 m70 m60").asks(26, 0, x -> x.apart());
        Edge.of(21, far).road("r7 m16 m76 m80 m96").asks(6, 1, x -> x.apart());
        String lost = "APART: how far all STONES that have a HOME and are not LOST are from it, together, and 10 for "
            + "each that is LOST";
        Edge.ofTerms(21, lost).road("r7 m10 m90 m72 t01").walked(0).asks(14, 1, x -> x.apart())
            .walked(0).asks(24, 0, x -> x.apart()).walked(0).asks(24, 0, x -> x.apart());
        Edge.ofTerms(21, lost).road("r2 m11 m21 m31 m41 m51 t10").walked(0, 0, 0, 0, 0).asks(50, 0, x -> x.apart());
    }

    // ---- 22: keep

    private static void keep() {
        Edge one = Edge.of(22, "The ROAD is kept in a place (0 .. 2; where STONES are, the LAW): how many WALKS were "
            + "done. BAD; STATE: there are no POSTS.");
        one.refuses(STATE, x -> x.keep(0)).refuses(STATE, x -> x.keep(2)).refuses(BAD, x -> x.keep(3))
            .refuses(BAD, x -> x.keep(-1));
        Edge some = one.road("r6 m10 w05");
        some.takes(0, x -> x.keep(0)).takes(0, x -> x.keep(1)).takes(0, x -> x.keep(2))
            .refuses(BAD, x -> x.keep(-1)).refuses(BAD, x -> x.keep(3)).refuses(BAD, x -> x.keep(MAX))
            .refuses(BAD, x -> x.keep(MIN));
        some.walked(0, 0).takes(2, x -> x.keep(1)).takes(2, x -> x.keep(1) * x.count(4) / 2);
        walkedOften(some, MOST).takes(60, x -> x.keep(2));
        one.road("r2").takes(0, x -> x.keep(0));
    }

    // ---- 23: on

    private static void on() {
        Edge one = Edge.of(23, "STONES are where they were as it was kept, the LAW, too (WALKS done, what was paid, "
            + "moved: 0 then): 1. BAD; NOTHING.");
        one.finds(NOTHING, x -> x.on(0)).finds(NOTHING, x -> x.on(2)).refuses(BAD, x -> x.on(3)).refuses(BAD, x -> x.on(-1));
        Edge kept = one.road("r6 m10 m20 w05 t01").given(x -> x.law(1)).walked(0).given(x -> x.keep(0)).walked(1)
            .given(x -> x.law(2)).given(x -> x.keep(2)).walked(0);
        kept.takes(1, x -> x.on(0)).takes(1, x -> x.on(2)).finds(NOTHING, x -> x.on(1)).refuses(BAD, x -> x.on(-1))
            .refuses(BAD, x -> x.on(3)).refuses(BAD, x -> x.on(MAX)).refuses(BAD, x -> x.on(MIN));
        Edge first = kept.given(x -> x.on(0));
        first.lays(0, 0, new int[] {0, 1}, x -> x.where(0)).takes(1, x -> x.law(0)).takes(0, x -> x.count(4))
            .asks(1, 0, x -> x.stone(1, 3)).asks(1, 0, x -> x.walker(0, 3)).refuses(BAD, x -> x.undo(1))
            .stays(1, x -> x.on(0)).takes(1, x -> x.on(2)).takes(0, x -> x.keep(1));
        kept.given(x -> x.on(2)).lays(1, 0, new int[] {NONE, 1}, x -> x.where(0)).takes(2, x -> x.law(0))
            .takes(1, x -> x.on(0));
        kept.given(x -> x.keep(0)).given(x -> x.on(0)).lays(1, 0, new int[] {NONE, 2}, x -> x.where(0));
        walkedOften(first, MOST).refuses(FULL, x -> x.walk(0)).given(x -> x.on(0))
            .takes(1, x -> x.walk(0) > 0 ? x.count(4) : 0);
        kept.text(1, "r9").refuses(STATE, x -> x.road(1)).given(x -> x.road(1)).takes(1, x -> x.on(0));
        kept.given(x -> x.road(0)).finds(NOTHING, x -> x.on(0)).finds(NOTHING, x -> x.on(2));
        one.road("r2").given(x -> x.keep(1)).stays(1, x -> x.on(1));
    }

    // ---- 24: sees

    private static void sees() {
        Edge one = Edge.of(24, "What one sees at a POST: the least NUMBER there (0: none); how many STONES by asked(). "
            + "BAD.").road("r7 m90 m16 m26 m36 m46 t65");
        one.asks(9, 1, x -> x.sees(0)).asks(1, 4, x -> x.sees(6)).asks(0, 0, x -> x.sees(3))
            .refuses(BAD, x -> x.sees(7)).refuses(BAD, x -> x.sees(-1)).refuses(BAD, x -> x.sees(NONE))
            .refuses(BAD, x -> x.sees(MAX)).refuses(BAD, x -> x.sees(MIN));
        one.walked(0, 0, 0).asks(1, 1, x -> x.sees(6)).walked(0).asks(0, 0, x -> x.sees(6)).refuses(BAD, x -> x.sees(7));
        Edge.of(24, "(0: none)").road("r2").asks(0, 0, x -> x.sees(1)).refuses(BAD, x -> x.sees(2));
        Edge.of(24, "the least NUMBER there").road("r2 m91 m81 m51 m61 m71").asks(5, 5, x -> x.sees(1));
        Edge.of(24, "BAD.").refuses(BAD, x -> x.sees(0));
    }

    // ---- 25: may

    private static void may() {
        String from = "POSTS (bits) at which one may be, who saw a ROW of NUMBERS (as sees(); 1 to 7 of them), POST by "
            + "POST, from there on upwards.";
        Edge seven = Edge.of(25, from).road("r7 m31 m94 m14 m86");
        seven.row(0, 0).stays(1 + 4 + 8 + 32, x -> x.may(0));
        seven.row(0, 8).stays(64, x -> x.may(0));
        seven.row(0, 9).stays(0, x -> x.may(0));
        seven.row(0, 0, 8).stays(32, x -> x.may(0));
        seven.row(0, 8, 0).stays(0, x -> x.may(0));
        seven.row(0, 0, 0).stays(4, x -> x.may(0));
        seven.row(0, 0, 3, 0, 0, 1, 0, 8).stays(1, x -> x.may(0));
        seven.row(LAST_ROW, 0, 3, 0, 0, 1, 0, 0).stays(0, x -> x.may(LAST_ROW));
        seven.row(0, 3, 0, 0, 1, 0, 8).stays(2, x -> x.may(0));
        Edge empty = Edge.of(25, from).road("r7");
        empty.row(0, 0).stays(127, x -> x.may(0));
        empty.row(0, 0, 0, 0, 0, 0, 0, 0).stays(1, x -> x.may(0));
        empty.row(0, 9).stays(0, x -> x.may(0));
        Edge.of(25, from).road("r2 m20 t01").walked(0).row(0, 0, 0).stays(1, x -> x.may(0)).row(0, 2)
            .stays(0, x -> x.may(0));
    }

    private static void mayRefuses() {
        String refused = "BAD; NOTHING; SIZE: none, or more than there are POSTS; UNLIKE: not 0 .. 9.";
        Edge three = Edge.of(25, refused).road("r3 m90 m11");
        three.row(0, 9, 1, 0).stays(1, x -> x.may(0)).finds(NOTHING, x -> x.may(1)).finds(NOTHING, x -> x.may(LAST_ROW))
            .refuses(BAD, x -> x.may(-1)).refuses(BAD, x -> x.may(6)).refuses(BAD, x -> x.may(MAX))
            .refuses(BAD, x -> x.may(MIN));
        three.row(0).finds(SIZE, x -> x.may(0));
        three.row(0, 9, 1, 0, 0).finds(SIZE, x -> x.may(0));
        three.row(0, 9, 1, 0, -1).finds(SIZE, x -> x.may(0));
        three.row(0, new int[MOST]).finds(SIZE, x -> x.may(0));
        three.row(0, -1).finds(UNLIKE, x -> x.may(0));
        three.row(0, 10).finds(UNLIKE, x -> x.may(0));
        three.row(0, 9, 1, 10).finds(UNLIKE, x -> x.may(0));
        three.row(0, 9, MAX, 0).finds(UNLIKE, x -> x.may(0));
        three.row(0, MIN, 1, 0).finds(UNLIKE, x -> x.may(0));
        three.row(0, 5, NONE).finds(UNLIKE, x -> x.may(0));
        Edge.of(25, refused).road("r7").row(0, 0, 0, 0, 0, 0, 0, 0, 0).finds(SIZE, x -> x.may(0));
        Edge.of(25, refused).road("r2").row(0, 0, 0, 0).finds(SIZE, x -> x.may(0));
        Edge.of(25, refused).row(0, 0).row(1).row(2, 99).finds(SIZE, x -> x.may(0)).finds(SIZE, x -> x.may(1))
            .finds(SIZE, x -> x.may(2)).finds(NOTHING, x -> x.may(3)).refuses(BAD, x -> x.may(6));
    }

    // ---- 26: standings

    private static void standings() {
        String many = "How many unlike STANDINGS there can be behind just n (0 .. 3) WALKS (any) from as it is; by how "
            + "many of them sees() answers the same at a POST as now, by asked(). BAD.";
        Edge one = Edge.of(26, many).road("r7 m10 w06");
        one.asks(1, 1, x -> x.standings(0, 0)).asks(1, 0, x -> x.standings(1, 0)).asks(1, 1, x -> x.standings(1, 6))
            .asks(1, 0, x -> x.standings(3, 0)).asks(1, 1, x -> x.standings(3, 1)).asks(1, 0, x -> x.standings(3, 0))
            .refuses(BAD, x -> x.standings(-1, 0)).refuses(BAD, x -> x.standings(4, 0))
            .refuses(BAD, x -> x.standings(0, -1)).refuses(BAD, x -> x.standings(0, 7))
            .refuses(BAD, x -> x.standings(MAX, 0)).refuses(BAD, x -> x.standings(MIN, 0))
            .refuses(BAD, x -> x.standings(0, MAX)).refuses(BAD, x -> x.standings(0, MIN))
            .refuses(BAD, x -> x.standings(0, NONE));
        // the STONE stays at 0, or goes on by the second one: 0; 0 or 1; 0, 1 or 2
        Edge two = Edge.of(26, many).road("r4 m10 w12 l01 l23");
        two.asks(2, 1, x -> x.standings(1, 0)).asks(3, 1, x -> x.standings(2, 0)).asks(4, 1, x -> x.standings(3, 0))
            .asks(4, 3, x -> x.standings(3, 3));
        // each THIEF has a STONE of its own: of five one is LOST; one, or two; one, two, or three
        Edge five = Edge.of(26, many).road("r7 m91 m82 m73 m64 m55 t16 t26 t36 t46 t56");
        five.asks(5, 4, x -> x.standings(1, 1)).asks(15, 10, x -> x.standings(2, 1)).asks(25, 14, x -> x.standings(3, 1))
            .asks(25, 25, x -> x.standings(3, 0));
        Edge none = Edge.of(26, many).road("r2 m10");
        none.asks(1, 1, x -> x.standings(0, 0)).asks(0, 0, x -> x.standings(1, 0)).asks(0, 0, x -> x.standings(3, 1))
            .refuses(BAD, x -> x.standings(3, 2));
        Edge.of(26, many).road("r2 w01").asks(1, 1, x -> x.standings(0, 0)).asks(1, 1, x -> x.standings(3, 1));
        Edge.of(26, "BAD.").refuses(BAD, x -> x.standings(0, 0)).refuses(BAD, x -> x.standings(4, 0));
        // the first and the third pay, the second moves nothing: it stands as it stood
        String standing = "A STANDING is where all STONES are;";
        Edge.ofTerms(26, standing).road("r4 m10 b01 w12 p01").asks(1, 1, x -> x.standings(1, 0)).asks(1, 1, x -> x.standings(3, 0)).asks(1, 0, x -> x.all());
        // one STONE is at each POST then and now, but not the same one
        Edge.ofTerms(26, standing).road("r2 m10 m21 b01 w10").given(x -> x.law(1))
            .asks(2, 1, x -> x.standings(1, 0)).row(0, 1, 0).asks(1, 1, x -> x.moved(0));
        // what is seen at 0 is 1 then and now, though the 2 is gone from there
        Edge.of(26, "sees() answers the same").road("r2 m10 m20 c10 t01").asks(2, 2, x -> x.standings(1, 0));
    }

    // ---- 27: look

    private static void look() {
        String which = "Which POST to look at (the first), so that, whatever is seen there (as sees()), fewest of the "
            + "unlike STANDINGS behind just n (0 .. 3) WALKS are left at most; how many at most by asked().";
        Edge.of(27, which).road("r4 m10 l01 l12 l23").asks(0, 1, x -> x.look(0)).asks(0, 1, x -> x.look(1))
            .asks(0, 2, x -> x.look(2)).asks(0, 3, x -> x.look(3))
            .refuses(BAD, x -> x.look(4)).refuses(BAD, x -> x.look(-1)).refuses(BAD, x -> x.look(MAX))
            .refuses(BAD, x -> x.look(MIN));
        // at 3, 1 or 2: POST 0 leaves three, POST 1 two
        Edge.of(27, which).road("r4 m12 l23 l21 l01").asks(1, 2, x -> x.look(1));
        // only at the last POST one sees whether the THIEF was there
        Edge.of(27, which).road("r7 m16 t65 w01").asks(6, 1, x -> x.look(1));
        // behind one WALK POST 5 shows 1, 3, 2, POST 6 shows 0, 1, 1
        Edge.of(27, which).road("r7 m16 m25 m35 l65 l56 t56").asks(5, 1, x -> x.look(1));
        Edge.of(27, which).road("r4 m12").asks(0, 1, x -> x.look(0)).asks(0, 0, x -> x.look(1)).asks(0, 0, x -> x.look(3));
        Edge.of(27, which).road("r2").asks(0, 1, x -> x.look(0)).asks(0, 0, x -> x.look(1));
        Edge.of(27, which).road("r2 w01").asks(0, 1, x -> x.look(3));
        Edge.of(27, "BAD; STATE: there are no POSTS.").refuses(STATE, x -> x.look(0)).refuses(STATE, x -> x.look(3))
            .refuses(BAD, x -> x.look(4)).refuses(BAD, x -> x.look(-1));
    }
}
