/** The edges of promises 10 to 15, and of the terms on ROADS, STONES, WALKERS, LAWS. */
public final class EdgesOfRoadsTest {
    private static final int BAD = Edge.BAD, STATE = Edge.STATE, NONE = Edge.NONE;
    private static final int NOTHING = Edge.NOTHING, UNLIKE = Edge.UNLIKE;
    private static final int MAX = Edge.MAX, MIN = Edge.MIN;
    private static final String FULL_ROAD = "r7 m10 m20 m30 m40 m56 w01 c12 b23 l34 t45";

    public static void main(String[] args) {
        faultOfCalls();
        faultOfBlanks();
        faultOfPosts();
        faultOfStones();
        faultOfWalkers();
        faultOfEnds();
        faultOfEverySign();
        road();
        roadAnew();
        stone();
        stoneHome();
        stoneMoved();
        walker();
        mark();
        markOfCartAndBoth();
        markOfLameThiefPilgrim();
        law();
        lawOfTaking();
        lawTwo();
        Edge.finish("EdgesOfRoadsTest", 10, 15);
    }

    // ---- 10: fault

    private static void faultOfCalls() {
        Edge.of(10, "A FAULT of a TEXT; NONE: there is none. BAD; NOTHING.").text(0, "r2").text(3, "r9")
            .refuses(NONE, x -> x.fault(0)).stays(1, x -> x.fault(3))
            .finds(NOTHING, x -> x.fault(1)).finds(NOTHING, x -> x.fault(2))
            .refuses(BAD, x -> x.fault(-1)).refuses(BAD, x -> x.fault(4))
            .refuses(BAD, x -> x.fault(MIN)).refuses(BAD, x -> x.fault(MAX));
    }

    /** Each text has its FAULT, and road() refuses it, or takes it. */
    private static void reads(String sentence, Object... textsAndFaults) {
        for (int i = 0; i < textsAndFaults.length; i += 2) {
            String text = (String) textsAndFaults[i];
            int fault = (Integer) textsAndFaults[i + 1];
            Edge.ofTerms(10, sentence).text(2, text).stays(fault, x -> x.fault(2));
            Edge laid = Edge.ofTerms(11, sentence).text(2, text);
            if (fault == NONE) {
                laid.takes(text.chars().filter(c -> c == 'm').count(), x -> x.road(2));
            } else {
                laid.refuses(STATE, x -> x.road(2));
            }
        }
    }

    private static void faultOfBlanks() {
        reads("blanks (32) ahead, between, behind as many as wanted, none within items",
            "r3", NONE, " r3", NONE, "r3 ", NONE, "   r3   ", NONE, "r3m10w01", NONE, "r3 m10 w01", NONE,
            "  r3   m10    w01     ", NONE, "r3m10 m20w01 w12", NONE, "r 3", 1, "r3 m 10", 4, "r3 m1 0", 5,
            "r3 w 01", 4, "r3 w0 1", 5, "r ", 1, "r3 m ", 4, "r3 m1 ", 5, "r3 w ", 4, "r3 w0 ", 5, "\tr3", 0,
            "r3\n", 2, "r3\0", 2, "r3 \u00a0", 3);
    }

    private static void faultOfPosts() {
        reads("The first item is r (114) n: POSTS 0 .. n less 1 (n 2 .. 7, one figure)",
            "r0", 1, "r1", 1, "r2", NONE, "r7", NONE, "r8", 1, "r9", 1, "r-3", 1, "R3", 0, "m10", 0, "w01", 0,
            "3", 0, "3r", 0, "r23", 2, "r22", 2, "r3r3", 2, "r3 r3", 3, "r3 m10 r3", 7, "rr3", 1);
    }

    private static void faultOfStones() {
        reads("then STONES (none, or 5 at most; 0, 1, .. as they come)",
            "r7 w01", NONE, "r7 m10 m20 m30 m40 m50", NONE, "r7 m10 m20 m30 m40 m50 m60", 23,
            "r7m10m20m30m40m50m60", 17, "r7 m10 m20 m30 m40 m50 m", 23, "r7 m10 m20 m30 m40 m50 m10", 23,
            "r7 m10 m20 m30 m40 m5", 21, "r7 m10 m20 m30 m40 m50 w01", NONE);
        reads("its NUMBER (1 .. 9, one figure, unlike those told ahead)",
            "r2 m00", 4, "r2 m10", NONE, "r2 m90", NONE, "r2 m:0", 4, "r2 m/0", 4, "r2 m-1", 4, "r2 m100", 6,
            "r2 m10 m10", 8, "r2 m10 m11", 8, "r7 m90 m80 m70 m60 m90", 20, "r7 m90 m80 m70 m60 m60", 20,
            "r7 m90 m80 m70 m60 m50", NONE, "r2 mm10", 4);
        reads("then STONES (none, or 5 at most; 0, 1, .. as they come): m (109), its NUMBER",
            "r2 m10", NONE, "r2 n10", 3, "r2 M10", 3, "r2 \u00ed10", 3, "r2 m10 m21", NONE);
        reads("its POST (one figure)",
            "r2 m10", NONE, "r2 m11", NONE, "r2 m12", 5, "r7 m16", NONE, "r7 m17", 5, "r7 m19", 5, "r3 m13", 5,
            "r3 m12", NONE, "r3 m1/", 5, "r3 m1m", 5, "r3 m122", 6);
    }

    private static void faultOfWalkers() {
        reads("then WALKERS (none, or 5 at most; 0, 1, .. as they come)",
            "r7 m10", NONE, "r7 w01 c01 b01 l01 t01", NONE, "r7 w01 c01 b01 l01 t01 p01", 23,
            "r7w01c01b01l01t01p01", 17, "r7 w01 w01 w01 w01 w01 w", 23, "r7 w01 w01 w01 w01 w01 x", 23,
            "r7 w01 w01 w01 w01 w0", 21, "r7 w01 w01 w01 w01 w01 r7", 23);
        reads("a letter, the POST from which one walks, the POST to which (unlike), one figure each",
            "r2 w01", NONE, "r2 w10", NONE, "r2 w00", 5, "r2 w11", 5, "r2 w02", 5, "r2 w20", 4, "r7 w60", NONE,
            "r7 w06", NONE, "r7 w66", 5, "r7 w70", 4, "r7 w07", 5, "r7 w77", 4, "r7 w011", 6, "r3 w2 2", 5);
        reads("w (119) WALKER, c (99) CART, b (98) BOTH, l (108) LAME, t (116) THIEF, p (112) PILGRIM",
            "r2 w01", NONE, "r2 c01", NONE, "r2 b01", NONE, "r2 l01", NONE, "r2 t01", NONE, "r2 p01", NONE,
            "r2 W01", 3, "r2 C01", 3, "r2 B01", 3, "r2 L01", 3, "r2 T01", 3, "r2 P01", 3, "r2 M10", 3,
            "r2 a01", 3, "r2 d01", 3, "r2 k01", 3, "r2 q01", 3, "r2 s01", 3, "r2 u01", 3, "r2 v01", 3, "r2 x01", 3,
            "r2 01", 3, "r2 n10", 3);
        reads("STONES come ahead of all WALKERS.",
            "r2 m10 w01", NONE, "r2 w01 m10", 7, "r2w01m10", 5, "r2 m10 w01 m20", 11, "r2 w01 m", 7,
            "r7 m10 m20 m30 m40 m50 w01 m60", 27, "r7 w01 w01 w01 w01 w01 m10", 23);
    }

    private static void faultOfEnds() {
        reads("the TEXT's size, if its end comes too early, or there are blanks alone",
            "", 0, " ", 1, "     ", 5, " ".repeat(60), 60, "r", 1, "  r", 3, "r3 m", 4, "r3 m1", 5, "r3 w", 4,
            "r3 w0", 5, "r3 m10 m", 8, "r3 w01 p2", 9, " ".repeat(59) + "r", 60, " ".repeat(58) + "r2", NONE,
            "r2" + " ".repeat(58), NONE, "r2" + " ".repeat(57) + "m", 60, "r2" + " ".repeat(56) + "w0", 60,
            "r2" + " ".repeat(55) + "w01", NONE, "r2" + " ".repeat(57) + "x", 59,
            " ".repeat(14) + FULL_ROAD + " ".repeat(4), NONE);
        reads("a sixth STONE, WALKER, a STONE behind a WALKER: its place", "r7 m10 m20 m30 m40 m50  m60", 24,
            "r7 w01 w01 w01 w01 w01  t10", 24, "r7 m10 w01  m20", 12, "r7 m10 m20 m30 m40 m50 w01 m60", 27);
        reads("A FAULT is the first place at which it can't go on so", "r9 m90 x", 1, "r3 m93 w33", 5, "r3 x y", 3);
    }

    /** Each of the 256 bytes at each place of an item. */
    private static void faultOfEverySign() {
        String sentence = "a letter, a figure that is none such";
        for (int v = -128; v <= 127; v++) {
            boolean starts = v == 'm' || "wcbltp".indexOf((char) v) >= 0;
            readsSign(sentence, "?3", 0, v, v == 'r' ? NONE : v == ' ' ? 1 : 0);
            readsSign(sentence, "r?", 1, v, v >= '2' && v <= '7' ? NONE : 1);
            readsSign(sentence, "r3?", 2, v, v == ' ' ? NONE : starts ? 3 : 2);
            readsSign(sentence, "r3m?0", 3, v, v >= '1' && v <= '9' ? NONE : 3);
            readsSign(sentence, "r3m1?", 4, v, v >= '0' && v <= '2' ? NONE : 4);
            readsSign(sentence, "r3w?1", 3, v, v == '0' || v == '2' ? NONE : v == '1' ? 4 : 3);
            readsSign(sentence, "r3w1?", 4, v, v == '0' || v == '2' ? NONE : 4);
        }
    }

    private static void readsSign(String sentence, String text, int place, int v, int fault) {
        Edge.ofTerms(10, sentence).text(1, text).given(x -> x.put(1, place, v)).stays(fault, x -> x.fault(1));
    }

    // ---- 11: road

    private static void road() {
        Edge.of(11, "BAD; NOTHING; STATE: a FAULT. (STATE behind NOTHING.)").road("r3 m10 w01")
            .given(x -> x.law(2)).walked(0).given(x -> x.keep(1))
            .text(1, "r3 m13").given(x -> x.text(2, 0))
            .refuses(STATE, x -> x.road(1)).refuses(STATE, x -> x.road(2)).finds(NOTHING, x -> x.road(3))
            .refuses(BAD, x -> x.road(-1)).refuses(BAD, x -> x.road(4))
            .refuses(BAD, x -> x.road(MIN)).refuses(BAD, x -> x.road(MAX));
        Edge.of(11, "how many STONES").text(0, "r2").text(1, "r2 w01").text(2, FULL_ROAD).text(3, "r7 m90")
            .takes(0, x -> x.road(0)).takes(0, x -> x.road(1)).takes(5, x -> x.road(2)).takes(1, x -> x.road(3))
            .takes(2, x -> x.road(0) + x.count(0)).takes(7, x -> x.road(0) + x.road(1) + x.road(3) * x.count(0))
            .takes(0, x -> x.road(1) * x.count(3)).takes(5, x -> x.road(2) / 5 * x.count(3));
    }

    private static void roadAnew() {
        Edge.of(11, "A ROAD by a TEXT (anew; LAW 0, no WALKS, kept ROADS)").road(FULL_ROAD)
            .given(x -> x.law(1)).walked(0, 1, 2, 4).given(x -> x.keep(0)).given(x -> x.keep(2)).given(x -> x.road(0))
            .takes(0, x -> x.law(0)).takes(0, x -> x.count(4)).takes(0, x -> x.count(2))
            .finds(NOTHING, x -> x.on(0)).finds(NOTHING, x -> x.on(1)).finds(NOTHING, x -> x.on(2))
            .asks(1, 0, x -> x.stone(0, 3)).asks(1, 0, x -> x.stone(0, 1)).asks(1, 0, x -> x.walker(4, 3))
            .refuses(BAD, x -> x.undo(1));
        Edge.of(11, "A ROAD by a TEXT").road("r3 m10").given(x -> x.put(0, 1, '2')).given(x -> x.put(0, 3, 'x'))
            .takes(3, x -> x.count(0)).takes(1, x -> x.count(1)).refuses(STATE, x -> x.road(0));
        Edge.of(11, "A ROAD by a TEXT").text(0, "r3 m10").takes(0, x -> x.count(0)).takes(0, x -> x.count(1));
        Edge.ofTerms(11, "A ROAD (without POSTS at first) is a TEXT").takes(0, x -> x.count(0))
            .refuses(STATE, x -> x.look(0)).text(3, "r5").takes(5, x -> x.road(3) + x.count(0));
    }

    // ---- 12: stone

    private static void stone() {
        Edge.of(12, "Of a STONE: 0 its NUMBER, 1 its POST (NONE: LOST), 2 its HOME (NONE), 3 how often it was moved, "
            + "all told by asked(): 1. BAD.").road("r7 m96 m10 m20 m35 m41 w01 t65")
            .asks(1, 9, x -> x.stone(0, 0)).asks(1, 6, x -> x.stone(0, 1)).asks(1, NONE, x -> x.stone(0, 2))
            .asks(1, 0, x -> x.stone(0, 3)).asks(1, 4, x -> x.stone(4, 0)).asks(1, 1, x -> x.stone(4, 1))
            .asks(1, 3, x -> x.stone(4, 2)).asks(1, 0, x -> x.stone(4, 3))
            .refuses(BAD, x -> x.stone(5, 0)).refuses(BAD, x -> x.stone(-1, 0)).refuses(BAD, x -> x.stone(MAX, 0))
            .refuses(BAD, x -> x.stone(MIN, 0)).refuses(BAD, x -> x.stone(0, 4)).refuses(BAD, x -> x.stone(0, -1))
            .refuses(BAD, x -> x.stone(4, MAX)).refuses(BAD, x -> x.stone(4, MIN)).refuses(BAD, x -> x.stone(5, 4));
        Edge.of(12, "BAD.").road("r7 m96 w01").refuses(BAD, x -> x.stone(1, 0)).asks(1, 9, x -> x.stone(0, 0));
        Edge.of(12, "BAD.").road("r7 w01").refuses(BAD, x -> x.stone(0, 0));
        Edge.of(12, "BAD.").refuses(BAD, x -> x.stone(0, 0)).refuses(BAD, x -> x.stone(0, 3));
        Edge.of(12, "1 its POST (NONE: LOST)").road("r7 m96 m15 t65").walked(0)
            .asks(1, NONE, x -> x.stone(0, 1)).asks(1, 5, x -> x.stone(1, 1)).asks(1, 9, x -> x.stone(0, 0));
    }

    private static void stoneHome() {
        Edge home = Edge.ofTerms(12, "HOME of a STONE is the POST of its NUMBER less 1 (none, if there is no such "
            + "POST).");
        for (int posts = 2; posts <= 7; posts++) {
            for (int number = 1; number <= 9; number++) {
                home.road("r" + posts + " m" + number + "0")
                    .asks(1, number <= posts ? number - 1 : NONE, x -> x.stone(0, 2));
            }
        }
        home.road("r3 m30 t01").walked(0).asks(1, 2, x -> x.stone(0, 2));
    }

    private static void stoneMoved() {
        Edge.of(12, "3 how often it was moved").road("r3 m10 m22 b01 t01 w20").walked(0, 0, 0)
            .asks(1, 6, x -> x.stone(0, 3)).asks(1, 0, x -> x.stone(1, 3));
        Edge.of(12, "3 how often it was moved").road("r3 m10 m22 b01 t01 w20").walked(1, 1, 1)
            .asks(1, 1, x -> x.stone(0, 3));
        Edge.of(12, "3 how often it was moved").road("r2 m10 b01")
            .given(x -> x.row(0, 60)).given(x -> x.walks(0)).asks(1, 120, x -> x.stone(0, 3));
    }

    // ---- 13: walker

    private static void walker() {
        Edge full = Edge.of(13, "Of a WALKER: 0 the KIND, 1 from where, 2 to where, 3 all PAY that it had, all told "
            + "by asked(): 1. BAD.").road("r7 m90 m51 w06 c60 b12 l21 t05");
        for (int w = 0; w < 5; w++) {
            int one = w;
            full.asks(1, w, x -> x.walker(one, 0)).asks(1, 0, x -> x.walker(one, 3));
        }
        full.asks(1, 0, x -> x.walker(0, 1)).asks(1, 6, x -> x.walker(0, 2)).asks(1, 6, x -> x.walker(1, 1))
            .asks(1, 0, x -> x.walker(1, 2)).asks(1, 5, x -> x.walker(4, 2))
            .refuses(BAD, x -> x.walker(5, 0)).refuses(BAD, x -> x.walker(-1, 0)).refuses(BAD, x -> x.walker(MAX, 0))
            .refuses(BAD, x -> x.walker(MIN, 0)).refuses(BAD, x -> x.walker(0, 4)).refuses(BAD, x -> x.walker(0, -1))
            .refuses(BAD, x -> x.walker(4, MAX)).refuses(BAD, x -> x.walker(4, MIN)).refuses(BAD, x -> x.walker(5, 4));
        Edge.of(13, "0 the KIND").road("r2 p01").asks(1, 5, x -> x.walker(0, 0)).refuses(BAD, x -> x.walker(1, 0));
        Edge.of(13, "BAD.").road("r2 m10").refuses(BAD, x -> x.walker(0, 0));
        Edge.of(13, "BAD.").refuses(BAD, x -> x.walker(0, 0));
        Edge.of(13, "3 all PAY that it had").road("r7 m90 m51 w06 c60 b12 l21 t05").walked(0, 4, 0, 2)
            .asks(1, 14, x -> x.walker(0, 3)).asks(1, 0, x -> x.walker(4, 3)).asks(1, 14, x -> x.walker(2, 3));
        Edge.of(13, "3 all PAY that it had").road("r2 m90 b01")
            .given(x -> x.row(0, 60)).given(x -> x.walks(0)).asks(1, 1080, x -> x.walker(0, 3));
    }

    // ---- 14: mark

    private static void mark() {
        Edge.of(14, "BAD: also KIND 0; UNLIKE.").road("r3 m10 w01 c01")
            .refuses(BAD, x -> x.mark(0, 0)).refuses(BAD, x -> x.mark(1, 0)).refuses(BAD, x -> x.mark(1, -1))
            .refuses(BAD, x -> x.mark(1, 6)).refuses(BAD, x -> x.mark(1, MAX)).refuses(BAD, x -> x.mark(1, MIN))
            .refuses(BAD, x -> x.mark(2, 1)).refuses(BAD, x -> x.mark(-1, 1)).refuses(BAD, x -> x.mark(MAX, 1))
            .refuses(BAD, x -> x.mark(MIN, 1)).refuses(BAD, x -> x.mark(2, 0)).refuses(BAD, x -> x.mark(0, 6))
            .finds(UNLIKE, x -> x.mark(0, 1)).finds(UNLIKE, x -> x.mark(0, 5)).stays(1, x -> x.mark(1, 1));
        Edge.of(14, "BAD: also KIND 0").refuses(BAD, x -> x.mark(0, 1)).road("r3 m10").refuses(BAD, x -> x.mark(0, 1));
        String kinds = "KINDS of WALKERS: 0 WALKER, 1 CART (a WALKER), 2 BOTH (a WALKER), 3 LAME (a WALKER), 4 THIEF "
            + "(a LAME), 5 PILGRIM (a BOTH)";
        String is = "What a WALKER that IS of a KIND tells:";
        Edge.of(14, is).road("r5 m11 m41 t13 l13 p13 b13").stays(2, x -> x.mark(0, 3)).stays(4, x -> x.mark(0, 4))
            .stays(2, x -> x.mark(1, 3)).finds(UNLIKE, x -> x.mark(1, 4)).stays(2, x -> x.mark(2, 2))
            .stays(4, x -> x.mark(2, 5)).stays(2, x -> x.mark(3, 2)).finds(UNLIKE, x -> x.mark(3, 5));
        String letters = "wcbltp";
        int[] kindsOf = {0, 1 << 1, 1 << 2, 1 << 3, 1 << 3 | 1 << 4, 1 << 2 | 1 << 5};
        for (int own = 0; own < 6; own++) {
            Edge one = Edge.ofTerms(14, kinds).road("r3 m10 m21 " + letters.charAt(own) + "02");
            for (int asked = 1; asked <= 5; asked++) {
                int kind = asked;
                if ((kindsOf[own] >> kind & 1) == 0) {
                    one.finds(UNLIKE, x -> x.mark(0, kind));
                } else {
                    one.takes(1, x -> x.mark(0, kind) >= 0 ? 1 : 0);
                }
            }
        }
    }

    private static void markOfCartAndBoth() {
        String cart = "a CART how many STONES it would move now";
        Edge.of(14, cart).road("r3 c01").stays(0, x -> x.mark(0, 1));
        Edge.of(14, cart).road("r3 m11 m22 c01").stays(0, x -> x.mark(0, 1));
        Edge.of(14, cart).road("r3 m10 c01").stays(1, x -> x.mark(0, 1));
        Edge.of(14, cart).road("r3 m10 m21 m31 c02").stays(1, x -> x.mark(0, 1));
        Edge.of(14, cart).road("r3 m10 m20 c01").stays(2, x -> x.mark(0, 1));
        Edge.of(14, cart).road("r3 m10 m20 m30 c01").stays(3, x -> x.mark(0, 1));
        Edge.of(14, cart).road("r3 m10 m20 m30 m40 c01").stays(3, x -> x.mark(0, 1));
        Edge.of(14, cart).road("r3 m10 m20 m30 m40 m50 c01").stays(3, x -> x.mark(0, 1)).walked(0)
            .stays(2, x -> x.mark(0, 1));
        String both = "a BOTH (PILGRIM, too) how many STONES are where they were behind a WALK of it now";
        Edge.of(14, both).road("r3 b01 p01").stays(0, x -> x.mark(0, 2)).stays(0, x -> x.mark(1, 2));
        Edge.of(14, both).road("r3 m10 b01 p01").stays(1, x -> x.mark(0, 2)).stays(1, x -> x.mark(1, 2));
        Edge.of(14, both).road("r4 m20 m13 b03 p03").stays(0, x -> x.mark(0, 2)).stays(0, x -> x.mark(1, 2));
        Edge.of(14, both).road("r4 m10 m22 m31 m43 b03 p03").stays(2, x -> x.mark(0, 2)).stays(4, x -> x.mark(1, 2));
        Edge.of(14, both).road("r4 m10 m20 m30 m40 m50 b12 p12").stays(5, x -> x.mark(0, 2)).stays(5, x -> x.mark(1, 2));
        Edge.of(14, both).road("r4 m12 p03 b03").stays(0, x -> x.mark(0, 2)).stays(1, x -> x.mark(1, 2));
    }

    private static void markOfLameThiefPilgrim() {
        String lame = "a LAME one (THIEF, too) the POST to which it walks";
        Edge.of(14, lame).road("r7 l01 l06 l60 l65 t36").stays(1, x -> x.mark(0, 3)).stays(1, x -> x.mark(1, 3))
            .stays(5, x -> x.mark(2, 3)).stays(5, x -> x.mark(3, 3)).stays(4, x -> x.mark(4, 3));
        Edge.of(14, lame).road("r2 l10 t10").stays(0, x -> x.mark(0, 3)).stays(0, x -> x.mark(1, 3));
        String thief = "a THIEF the NUMBER that it would take now (NONE: there is none)";
        Edge.of(14, thief).road("r4 m11 t02").refuses(NONE, x -> x.mark(0, 4));
        Edge.of(14, thief).road("r4 t02").refuses(NONE, x -> x.mark(0, 4));
        Edge.of(14, thief).road("r4 m90 m10 m80 m20 t02").stays(9, x -> x.mark(0, 4)).walked(0)
            .stays(8, x -> x.mark(0, 4)).walked(0).stays(2, x -> x.mark(0, 4)).walked(0)
            .stays(1, x -> x.mark(0, 4)).walked(0).refuses(NONE, x -> x.mark(0, 4));
        String pilgrim = "a PILGRIM how many POSTS it walks there and back";
        Edge.of(14, pilgrim).road("r7 p01 p10 p06 p60 p25").stays(2, x -> x.mark(0, 5)).stays(2, x -> x.mark(1, 5))
            .stays(12, x -> x.mark(2, 5)).stays(12, x -> x.mark(3, 5)).stays(6, x -> x.mark(4, 5));
    }

    // ---- 15: law

    private static void law() {
        Edge.of(15, "The LAW is v (0 .. 2): what it was. BAD.")
            .takes(0, x -> x.law(0)).takes(0, x -> x.law(2)).takes(2, x -> x.law(2) + x.law(1))
            .takes(1, x -> x.law(1) + x.law(0))
            .refuses(BAD, x -> x.law(-1)).refuses(BAD, x -> x.law(3))
            .refuses(BAD, x -> x.law(MAX)).refuses(BAD, x -> x.law(MIN)).refuses(BAD, x -> x.law(NONE));
        Edge.of(15, "what it was").given(x -> x.law(1)).refuses(BAD, x -> x.law(3)).takes(1, x -> x.law(1));
        Edge.ofTerms(15, "LAWS (0 at first)").road(FULL_ROAD).takes(0, x -> x.law(1));
    }

    private static void lawOfTaking() {
        String of = "LAWS (0 at first) of which STONE is taken of those at a POST:";
        Edge near = Edge.ofTerms(15, of).road("r7 m51 m12 m92 m80 w16");
        near.takes(5, x -> x.pays(0)).given(x -> x.law(1)).takes(5, x -> x.pays(0));
        near.given(x -> x.law(2)).takes(5, x -> x.pays(0));
        String taken = "0 that of the least NUMBER, 1 of the greatest";
        Edge both = Edge.ofTerms(15, taken).road("r3 m50 m10 m90 m41 w02");
        both.takes(1, x -> x.pays(0)).given(x -> x.law(1)).takes(9, x -> x.pays(0));
        Edge one = Edge.ofTerms(15, taken).road("r3 m50 m41 w02");
        one.takes(5, x -> x.pays(0)).given(x -> x.law(1)).takes(5, x -> x.pays(0));
        one.given(x -> x.law(2)).takes(5, x -> x.pays(0));
    }

    private static void lawTwo() {
        String two = "2 the one farthest from HOME (those without HOME first of all; of alike ones the least NUMBER)";
        paysByTwo(two, "r7 m10 m20 m70 w01", 7);
        paysByTwo(two, "r7 m70 m80 w01", 8);
        paysByTwo(two, "r7 m80 m70 w01", 8);
        paysByTwo(two, "r7 m90 m80 m70 w01", 8);
        paysByTwo(two, "r7 m80 m90 w01", 8);
        paysByTwo(two, "r7 m53 m33 w34", 3);
        paysByTwo(two, "r7 m33 m53 w34", 3);
        paysByTwo(two, "r7 m73 m13 m43 w34", 1);
        paysByTwo(two, "r7 m13 m73 m43 w34", 1);
        paysByTwo(two, "r7 m10 w01", 1);
        paysByTwo(two, "r2 m11 m21 m31 w10", 3);
        paysByTwo(two, "r2 m11 m21 w10", 1);
        paysByTwo(two, "r7 m10 m20 m30 m40 c01", 9);
        paysByTwo(two, "r7 m16 m26 m36 m46 c65", 6);
        paysByTwo(two, "r7 m80 m10 m20 m70 c01", 17);
    }

    private static void paysByTwo(String sentence, String road, int pay) {
        Edge.ofTerms(15, sentence).road(road).given(x -> x.law(2)).takes(pay, x -> x.pays(0));
    }
}
