import java.math.BigInteger;
import java.util.List;
import java.util.function.Consumer;
import java.util.function.ToLongFunction;

/** The edges of promises 28 to 38: bringing home, who moved it, odds. */
public final class EdgesOfHomeTest {
    private static final int BAD = Edge.BAD, STATE = Edge.STATE, SPENT = Edge.SPENT, NONE = Edge.NONE;
    private static final int NOTHING = Edge.NOTHING, UNLIKE = Edge.UNLIKE, NOUGHT = Edge.NOUGHT, SIZE = Edge.SIZE;
    private static final int MAX = Edge.MAX, MIN = Edge.MIN;
    private static final int LAST_ROW = 5, LAST_SEED = 2147483646;
    private static final String SIXTY = "r7m11m51m75m33m62w30w16p30b41w12", SIXTY_ONE = "r7m75m41m26m16m66l10p51w56b60";
    private static final String FIVE_ALIKE = "r6 m10 w05 w05 w05 w05 w05";

    public static void main(String[] args) {
        fewest();
        way();
        wayOfMany();
        all();
        best();
        nearest();
        brings();
        earn();
        moved();
        movedRefuses();
        who();
        odds();
        oddsRefuses();
        years();
        yearsByLots();
        oneBehindTheOther();
        Edge.finish("EdgesOfHomeTest", 28, 38);
    }

    // ---- 28: fewest

    private static void fewest() {
        String most = "The fewest WALKS behind which all STONES that have a HOME are there (none LOST of them): how many";
        Edge.of(28, most).road("r2").asks(0, 1, x -> x.fewest());
        Edge.of(28, most).road("r3 m10 m21").asks(0, 1, x -> x.fewest());
        Edge.of(28, most).road("r3 m90 m41 w02").asks(0, 1, x -> x.fewest());
        Edge.of(28, most).road("r3 m11 l10").asks(1, 1, x -> x.fewest());
        Edge.of(28, most).road("r7 m16 w60").asks(6, 1, x -> x.fewest());
        Edge.of(28, most).road("r3 m10 m90 t01 t02").walked(0).asks(0, 1, x -> x.fewest());
        Edge.of(28, most).road("r3 m11 m91 t10 l10").walked(0).asks(1, 1, x -> x.fewest());
        Edge.of(28, most).road(SIXTY).takes(60, x -> x.fewest());
        Edge.of(28, most).road(SIXTY_ONE).takes(61, x -> x.fewest());
        String many = "how many such STANDINGS there are behind as few WALKS, by asked()";
        Edge.of(28, many).road("r3 m11 m91 l10 c10 w10").asks(1, 2, x -> x.fewest());
        Edge.of(28, many).road("r3 m11 m91 l10 w10 b10 l12").asks(1, 1, x -> x.fewest());
        // at home behind 0 WALKS, and so behind 1 in other STANDINGS, which do not count
        Edge.of(28, many).road("r3 m10 m91 l12 t10").asks(0, 1, x -> x.fewest());
        String never = "NONE: never. STATE: there are no POSTS.";
        Edge.of(28, never).road("r3 m11").refuses(NONE, x -> x.fewest());
        Edge.of(28, never).road("r3 m11 w01 w12").refuses(NONE, x -> x.fewest());
        Edge.of(28, never).road("r3 m10 t01 b01").walked(0).refuses(NONE, x -> x.fewest());
        Edge.of(28, never).refuses(STATE, x -> x.fewest());
    }

    // ---- 29: way

    private static void way() {
        String first = "The first row of as few WALKS (by WALKERS' numbers, one behind the other) that does it comes to "
            + "a ROW (anew): how many.";
        Edge two = Edge.of(29, first).road("r3 m12 l10 l21 w20 w21 l01");
        two.lays(2, 0, new int[] {1, 0}, x -> x.way(0)).lays(2, LAST_ROW, new int[] {1, 0}, x -> x.way(LAST_ROW));
        two.row(1, 9, 9, 9, 9).lays(2, 1, new int[] {1, 0}, x -> x.way(1));
        Edge.of(29, first).road("r3 m11 w21 c10 l10").lays(1, 0, new int[] {1}, x -> x.way(0));
        Edge.of(29, first).road("r3 m11 w21 w01 w01 w01 l10").lays(1, 0, new int[] {4}, x -> x.way(0));
        Edge home = Edge.of(29, first).road("r3 m10 w02");
        home.lays(0, 0, new int[0], x -> x.way(0)).takes(1, x -> x.way(0) + x.count(6));
        home.row(0, 5, 5).lays(0, 0, new int[0], x -> x.way(0));
        Edge.of(29, first).road("r2").lays(0, 0, new int[0], x -> x.way(0));
        Edge.of(29, first).road("r3 m12 l10 l21").asks(2, -77, x -> {
            int n = x.way(0);
            x.tear(0);
            return n;
        });
        String refused = "NONE: never. BAD; STATE";
        Edge never = Edge.of(29, refused).road("r3 m11 w12");
        never.refuses(NONE, x -> x.way(0)).row(0, 5, 5).refuses(NONE, x -> x.way(0)).refuses(BAD, x -> x.way(6))
            .refuses(BAD, x -> x.way(-1)).refuses(BAD, x -> x.way(MAX)).refuses(BAD, x -> x.way(MIN));
        home.refuses(BAD, x -> x.way(6)).refuses(BAD, x -> x.way(-1));
        Edge.of(29, refused).refuses(STATE, x -> x.way(0)).refuses(STATE, x -> x.way(LAST_ROW))
            .refuses(BAD, x -> x.way(6)).refuses(BAD, x -> x.way(-1));
    }

    private static void wayOfMany() {
        Edge sixty = Edge.of(29, "SPENT: more than 60.").road(SIXTY);
        sixty.takes(60, x -> x.way(0)).given(x -> x.way(0)).given(x -> x.walks(0)).asks(0, 1, x -> x.fewest());
        Edge more = Edge.of(29, "SPENT: more than 60.").road(SIXTY_ONE);
        more.refuses(SPENT, x -> x.way(0)).row(0, 4).refuses(SPENT, x -> x.way(0)).refuses(BAD, x -> x.way(6));
    }

    // ---- 30: all

    private static void all() {
        String many = "How many STANDINGS can be come to by any WALKS; the most WALKS that one of them needs by asked().";
        Edge.of(30, many).asks(1, 0, x -> x.all());
        Edge.of(30, many).road("r7").asks(1, 0, x -> x.all());
        Edge.of(30, many).road("r7 w06").asks(1, 0, x -> x.all());
        Edge.of(30, many).road("r7 m10").asks(1, 0, x -> x.all());
        Edge.of(30, many).road("r7 m16 w06").asks(1, 0, x -> x.all());
        Edge.of(30, many).road("r7 m10 w06").asks(7, 6, x -> x.all()).walked(0, 0).asks(5, 4, x -> x.all());
        Edge.of(30, many).road("r7 m10 w06 t65").asks(8, 7, x -> x.all());
        Edge.of(30, many).road("r7 m10 t01").asks(2, 1, x -> x.all()).walked(0).asks(1, 0, x -> x.all());
        // each of five STONES has a THIEF of its own: all sets of them
        Edge.of(30, many).road("r7 m91 m82 m73 m64 m55 t16 t26 t36 t46 t56").asks(32, 5, x -> x.all());
    }

    // ---- 31: best

    private static void best() {
        String law = "The LAW (0 .. 2; the first) by which fewest() is least (NONE counts as more than any); that by "
            + "asked() (NONE). STATE: there are no POSTS.";
        Edge.of(31, law).refuses(STATE, x -> x.best());
        Edge.of(31, law).road("r2").asks(0, 0, x -> x.best()).given(x -> x.law(2)).asks(0, 0, x -> x.best());
        Edge.of(31, law).road("r3 m11").asks(0, NONE, x -> x.best());
        Edge.of(31, law).road("r3 m10 t01").walked(0).given(x -> x.law(1)).asks(0, NONE, x -> x.best());
        Edge.of(31, law).road("r3 m11 w10").asks(0, 1, x -> x.best());
        // of 1 and 2 at POST 1 the 2 may not go, of 3 and 4 at POST 2 the 3 may not
        Edge.of(31, law).road("r4 m11 m21 l10").asks(0, 1, x -> x.best());
        Edge.of(31, law).road("r4 m32 m42 l23").asks(1, 1, x -> x.best());
        Edge.of(31, law).road("r4 m11 m21 m32 m42 l10 l23").asks(2, 2, x -> x.best())
            .given(x -> x.law(1)).asks(2, 2, x -> x.best()).takes(1, x -> x.best() / 2 * x.law(0));
        // by LAW 0 the 3 goes on first and must come back, by LAW 1 it never went
        Edge.of(31, law).road("r4 m32 m42 l23 l32").asks(1, 1, x -> x.best()).asks(1, 1, x -> x.best());
    }

    // ---- 32: nearest

    private static void nearest() {
        String near = "The least APART of all STANDINGS that can be come to; in how few WALKS by asked().";
        Edge.of(32, near).asks(0, 0, x -> x.nearest());
        Edge.of(32, near).road("r7").asks(0, 0, x -> x.nearest());
        Edge.of(32, near).road("r7 m90 w06").asks(0, 0, x -> x.nearest());
        Edge.of(32, near).road("r7 m70").asks(6, 0, x -> x.nearest());
        Edge.of(32, near).road("r7 m70 w05").asks(1, 5, x -> x.nearest());
        Edge.of(32, near).road("r7 m70 w06").asks(0, 6, x -> x.nearest());
        Edge.of(32, near).road("r7 m30 w06").asks(0, 2, x -> x.nearest());
        Edge.of(32, near).road("r7 m71 w10 t12").asks(5, 0, x -> x.nearest());
        Edge.of(32, near).road("r7 m11 m91 t10").walked(0).asks(11, 0, x -> x.nearest()).walked(0)
            .asks(20, 0, x -> x.nearest());
        // by LAW 1 one WALK takes the 1 home, and the 2 on the way back; by LAW 0 the 1 goes to and fro
        Edge.of(32, near).road("r3 m11 m20 b10").asks(2, 0, x -> x.nearest())
            .given(x -> x.law(1)).asks(0, 1, x -> x.nearest());
        // the 1 comes nearer as the 3 goes away: as near before and behind, so 0 WALKS
        Edge.of(32, near).road("r3 m12 m32 c20").asks(2, 0, x -> x.nearest());
    }

    // ---- 33: brings

    private static void brings() {
        Edge one = Edge.of(33, "The fewest WALKS behind which a STONE is at a POST. NONE: never. BAD.")
            .road("r7 m10 m20 m32 m42 m52 w06 t65");
        one.stays(0, x -> x.brings(0, 0)).stays(1, x -> x.brings(0, 1)).stays(0, x -> x.brings(4, 2))
            .stays(2, x -> x.brings(1, 1))
            .refuses(BAD, x -> x.brings(5, 0)).refuses(BAD, x -> x.brings(-1, 0)).refuses(BAD, x -> x.brings(MAX, 0))
            .refuses(BAD, x -> x.brings(MIN, 0)).refuses(BAD, x -> x.brings(0, 7)).refuses(BAD, x -> x.brings(0, -1))
            .refuses(BAD, x -> x.brings(0, NONE)).refuses(BAD, x -> x.brings(0, MAX)).refuses(BAD, x -> x.brings(0, MIN))
            .refuses(BAD, x -> x.brings(5, 7));
        Edge alone = Edge.of(33, "NONE: never.").road("r7 m11 w06 t65");
        alone.refuses(NONE, x -> x.brings(0, 0)).stays(5, x -> x.brings(0, 6)).walked(0, 0, 0, 0, 0, 1)
            .refuses(NONE, x -> x.brings(0, 6)).refuses(NONE, x -> x.brings(0, 0));
        Edge.of(33, "NONE: never.").road("r2 m10").stays(0, x -> x.brings(0, 0)).refuses(NONE, x -> x.brings(0, 1))
            .refuses(BAD, x -> x.brings(0, 2)).refuses(BAD, x -> x.brings(1, 0));
        Edge.of(33, "BAD.").refuses(BAD, x -> x.brings(0, 0));
        Edge.of(33, "BAD.").road("r2 w01").refuses(BAD, x -> x.brings(0, 0));
    }

    // ---- 34: earn

    private static void earn() {
        String most = "The greatest PAY of n (1 .. 4) WALKS of any WALKERS; the first row of them, as figures to the base "
            + "of 5, the first the highest, by asked().";
        Edge last = Edge.of(34, most).road("r3 m10 l12 l12 l12 l12 b01");
        last.asks(2, 4, x -> x.earn(1)).asks(4, 24, x -> x.earn(2)).asks(6, 124, x -> x.earn(3))
            .asks(8, 624, x -> x.earn(4));
        Edge.of(34, most).road("r3 m90 b01 b01 b01 b01 b01").asks(18, 0, x -> x.earn(1)).asks(72, 0, x -> x.earn(4));
        // the STONE goes from POST to POST by one WALKER each
        Edge.of(34, most).road("r6 m90 l34 l23 l12 l01").asks(9, 3, x -> x.earn(1)).asks(18, 3 * 5 + 2, x -> x.earn(2))
            .asks(27, 3 * 25 + 2 * 5 + 1, x -> x.earn(3)).asks(36, 3 * 125 + 2 * 25 + 5, x -> x.earn(4));
        Edge.of(34, most).road("r3 w01 w12").asks(0, 0, x -> x.earn(1)).asks(0, 0, x -> x.earn(4));
        Edge.of(34, most).road("r3 m90 w12 t01").asks(9, 1, x -> x.earn(1)).asks(9, 1, x -> x.earn(4));
        Edge.of(34, "BAD; STATE: there are no WALKERS.").road("r3 m10 w01").refuses(BAD, x -> x.earn(0))
            .refuses(BAD, x -> x.earn(5)).refuses(BAD, x -> x.earn(-1)).refuses(BAD, x -> x.earn(MAX))
            .refuses(BAD, x -> x.earn(MIN));
        Edge none = Edge.of(34, "BAD; STATE: there are no WALKERS.").refuses(STATE, x -> x.earn(1))
            .refuses(STATE, x -> x.earn(4)).refuses(BAD, x -> x.earn(0)).refuses(BAD, x -> x.earn(5));
        none.road("r3 m10").refuses(STATE, x -> x.earn(1)).refuses(STATE, x -> x.earn(4)).refuses(BAD, x -> x.earn(5));
    }

    // ---- 35: moved

    private static void moved() {
        String few = "From as it is to a STANDING (a ROW of POSTS, NONE: LOST): the fewest WALKS (0 .. 4) that lead "
            + "there; in how many rows of so many by asked(). NONE: none.";
        Edge five = Edge.of(35, few).road(FIVE_ALIKE);
        int[] rows = {1, 5, 25, 125, 625};
        for (int n = 0; n <= 4; n++) {
            five.row(n, n).asks(n, rows[n], rowAsked(n));
        }
        five.row(0, 5).refuses(NONE, x -> x.moved(0));
        five.row(0, NONE).refuses(NONE, x -> x.moved(0));
        Edge.of(35, few).road("r3 m10 t01 w02").row(LAST_ROW, NONE).asks(1, 1, x -> x.moved(LAST_ROW))
            .row(0, 0).asks(0, 1, x -> x.moved(0)).row(1, 2).asks(2, 1, x -> x.moved(1));
        Edge.of(35, few).road("r3 m10 t01 w02").walked(0).row(0, NONE).asks(0, 1, x -> x.moved(0))
            .row(1, 0).refuses(NONE, x -> x.moved(1));
        Edge.of(35, few).road("r3 m10").row(0, 0).asks(0, 1, x -> x.moved(0)).row(0, 1).refuses(NONE, x -> x.moved(0));
        Edge.of(35, few).road("r3 w02").row(0).asks(0, 1, x -> x.moved(0));
        Edge.of(35, few).row(0).asks(0, 1, x -> x.moved(0));
        Edge.ofTerms(35, "a row of WALKS is a row of WALKERS (any, as often as one likes)").road("r6 m10 w05")
            .row(0, 4).asks(4, 1, x -> x.moved(0));
        // WALKS that move nothing are no fewer: the fewest alone count
        Edge.of(35, few).road("r3 m10 w12 l01").row(0, 1).asks(1, 1, x -> x.moved(0));
    }

    private static ToLongFunction<MilestonesOn> rowAsked(int r) {
        return x -> x.moved(r);
    }

    private static void movedRefuses() {
        for (int promise = 35; promise <= 36; promise++) {
            boolean who = promise == 36;
            Edge one = Edge.of(promise, who ? "BAD; NOTHING; SIZE; UNLIKE." : "BAD; NOTHING; SIZE")
                .road("r3 m10 m21 m32 w02").row(3, 0, 1, 2);
            for (int r : new int[] {-1, 6, MAX, MIN}) {
                one.refuses(BAD, x -> who ? x.who(r) : x.moved(r));
            }
            one.finds(NOTHING, x -> who ? x.who(0) : x.moved(0))
                .finds(NOTHING, x -> who ? x.who(LAST_ROW) : x.moved(LAST_ROW));
            if (!who) {
                one = Edge.of(35, "SIZE: not as many as STONES; UNLIKE: no POST, nor NONE.")
                    .road("r3 m10 m21 m32 w02").row(3, 0, 1, 2);
            }
            int[][] sizes = {{}, {0, 1}, {0, 1, 2, 0}, new int[60], {3, 1}, {-1}, {0, 1, 2, 9}};
            for (int[] row : sizes) {
                one.row(0, row).finds(SIZE, x -> who ? x.who(0) : x.moved(0));
            }
            int[][] unlike = {{3, 1, 2}, {0, 1, 3}, {-1, 1, 2}, {0, 1, -1}, {0, -8, 2}, {0, -10, 2}, {7, 1, 2},
                {MAX, 1, 2}, {0, 1, MIN}};
            for (int[] row : unlike) {
                one.row(0, row).finds(UNLIKE, x -> who ? x.who(0) : x.moved(0));
            }
            Edge none = Edge.of(promise, "SIZE").row(0, 0);
            none.finds(SIZE, x -> who ? x.who(0) : x.moved(0));
            none.road("r2 w01").finds(SIZE, x -> who ? x.who(0) : x.moved(0));
        }
    }

    // ---- 36: who

    private static void who() {
        String begins = "WALKERS (bits) with whom any such row begins; those that are in every such row by asked(). "
            + "NONE: none, or 0 WALKS.";
        Edge five = Edge.of(36, begins).road(FIVE_ALIKE);
        five.row(0, 0).refuses(NONE, x -> x.who(0));
        five.row(0, 1).asks(31, 0, x -> x.who(0));
        five.row(0, 4).asks(31, 0, x -> x.who(0));
        five.row(0, 5).refuses(NONE, x -> x.who(0));
        five.row(0, NONE).refuses(NONE, x -> x.who(0));
        Edge one = Edge.of(36, begins).road("r6 m10 w12 w23 w01 w34 w02");
        one.row(LAST_ROW, 1).asks(4 + 16, 0, x -> x.who(LAST_ROW));
        one.row(0, 4).asks(4 + 16, 2 + 8, x -> x.who(0));
        one.row(0, 3).asks(4 + 16, 2, x -> x.who(0));
        Edge last = Edge.of(36, begins).road("r6 m10 w12 w23 w34 w45 w01");
        last.row(0, 1).asks(16, 16, x -> x.who(0));
        last.row(0, 4).asks(16, 1 + 2 + 4 + 16, x -> x.who(0));
        Edge.of(36, begins).row(0).refuses(NONE, x -> x.who(0));
        Edge.of(36, begins).road("r3 m10").row(0, 0).refuses(NONE, x -> x.who(0)).row(0, 1)
            .refuses(NONE, x -> x.who(0));
    }

    // ---- 37: odds

    private static void odds() {
        String likely = "Odds that a STONE is at a POST (NONE: LOST) behind n (0 .. 4) WALKS, each by any WALKER as "
            + "likely, told by upper(), lower(): 1.";
        Edge row = Edge.of(37, likely).road("r7 m10 l01 l12 l23 l34 l45");
        row.fraction(1, 1, x -> x.odds(0, 0, 0)).fraction(0, 1, x -> x.odds(0, 1, 0)).fraction(1, 5, x -> x.odds(0, 1, 1))
            .fraction(4, 5, x -> x.odds(0, 0, 1)).fraction(1, 625, x -> x.odds(0, 4, 4)).fraction(0, 1, x -> x.odds(0, 5, 4))
            .fraction(256, 625, x -> x.odds(0, 0, 4)).fraction(0, 1, x -> x.odds(0, NONE, 4))
            .fraction(0, 1, x -> x.odds(0, 6, 0)).fraction(0, 1, x -> x.odds(0, NONE, 0));
        Edge.of(37, likely).road(FIVE_ALIKE).fraction(1, 1, x -> x.odds(0, 4, 4)).fraction(0, 1, x -> x.odds(0, 3, 4));
        Edge lost = Edge.of(37, "(NONE: LOST)").road("r3 m10 t01 w21");
        lost.fraction(1, 2, x -> x.odds(0, NONE, 1)).fraction(15, 16, x -> x.odds(0, NONE, 4)).walked(0)
            .fraction(1, 1, x -> x.odds(0, NONE, 0)).fraction(0, 1, x -> x.odds(0, 0, 4));
        Edge.ofTerms(37, "Fractions are told by upper(), lower(), in lowest terms, the lower number above 0 (0 by 1).")
            .road("r3 m10 w01 w01 w12 w12").fraction(1, 2, x -> x.odds(0, 1, 1)).fraction(1, 4, x -> x.odds(0, 0, 2))
            .fraction(0, 1, x -> x.odds(0, 2, 1)).fraction(11, 16, x -> x.odds(0, 2, 4));
    }

    private static void oddsRefuses() {
        String refused = "BAD; NOUGHT: there are no WALKERS (n above 0).";
        Edge.of(37, refused).road("r3 m10 m20 w01").fraction(1, 1, x -> x.odds(1, 0, 0))
            .refuses(BAD, x -> x.odds(2, 0, 1)).refuses(BAD, x -> x.odds(-1, 0, 1)).refuses(BAD, x -> x.odds(MAX, 0, 1))
            .refuses(BAD, x -> x.odds(MIN, 0, 1)).refuses(BAD, x -> x.odds(0, 3, 1)).refuses(BAD, x -> x.odds(0, -1, 1))
            .refuses(BAD, x -> x.odds(0, -8, 1)).refuses(BAD, x -> x.odds(0, -10, 1)).refuses(BAD, x -> x.odds(0, 7, 1))
            .refuses(BAD, x -> x.odds(0, MAX, 1)).refuses(BAD, x -> x.odds(0, MIN, 1)).refuses(BAD, x -> x.odds(0, 0, -1))
            .refuses(BAD, x -> x.odds(0, 0, 5)).refuses(BAD, x -> x.odds(0, 0, MAX)).refuses(BAD, x -> x.odds(0, 0, MIN));
        Edge.of(37, refused).road("r3 m10").fraction(1, 1, x -> x.odds(0, 0, 0)).fraction(0, 1, x -> x.odds(0, 1, 0))
            .fraction(0, 1, x -> x.odds(0, NONE, 0)).finds(NOUGHT, x -> x.odds(0, 0, 1))
            .finds(NOUGHT, x -> x.odds(0, NONE, 4)).refuses(BAD, x -> x.odds(0, 0, 5)).refuses(BAD, x -> x.odds(0, 3, 1))
            .refuses(BAD, x -> x.odds(1, 0, 1)).refuses(BAD, x -> x.odds(0, 0, -1));
        Edge.of(37, refused).road("r3 w01").refuses(BAD, x -> x.odds(0, 0, 0));
        Edge.of(37, refused).refuses(BAD, x -> x.odds(0, 0, 0)).refuses(BAD, x -> x.odds(0, NONE, 1));
    }

    // ---- 38: years

    private static void years() {
        String hundred = "A hundred years: n (1 .. 200) WALKS by a seed (1 .. 2147483646)";
        Edge one = Edge.of(38, hundred).road("r7 m10 m20 b01 w10");
        one.takes(1, x -> x.years(1, 1) >= 0 ? 1 : 0).takes(1, x -> x.years(200, LAST_SEED) >= 0 ? 1 : 0)
            .refuses(BAD, x -> x.years(0, 1)).refuses(BAD, x -> x.years(201, 1)).refuses(BAD, x -> x.years(-1, 1))
            .refuses(BAD, x -> x.years(MAX, 1)).refuses(BAD, x -> x.years(MIN, 1)).refuses(BAD, x -> x.years(1, 0))
            .refuses(BAD, x -> x.years(1, -1)).refuses(BAD, x -> x.years(1, MAX)).refuses(BAD, x -> x.years(1, MIN))
            .refuses(BAD, x -> x.years(201, 0));
        String post = "how far APART all are then; the POST with most STONES (the first) by asked(). (It stays.)";
        Edge.of(38, post).road("r7 m10 m20 w06").asks(2, 0, x -> x.years(1, 5)).asks(1, 1, x -> x.years(2, 5))
            .asks(11, 6, x -> x.years(12, 5)).asks(11, 6, x -> x.years(200, 5)).asks(9, 5, x -> x.years(10, 5)).asks(10, 5, x -> x.years(11, 5));
        Edge.of(38, post).road("r7 m10 t01").asks(10, 0, x -> x.years(1, 1)).asks(10, 0, x -> x.years(200, 1));
        Edge.of(38, post).road("r7 w01").asks(0, 0, x -> x.years(200, LAST_SEED));
        Edge.of(38, post).road("r7 m16 m26 m35 m45 w01").asks(16, 5, x -> x.years(7, 7));
        Edge.of(38, "BAD; NOUGHT: there are no WALKERS.").finds(NOUGHT, x -> x.years(1, 1))
            .finds(NOUGHT, x -> x.years(200, LAST_SEED)).refuses(BAD, x -> x.years(0, 1)).refuses(BAD, x -> x.years(1, MAX))
            .road("r3 m10").finds(NOUGHT, x -> x.years(1, 1)).refuses(BAD, x -> x.years(201, 1));
    }

    /** The WALKERS that the numbers choose, by long division, walk one behind the other: it must come to the same. */
    private static void yearsByLots() {
        String lots = "a number comes from the one ahead by 48271 times it modulo 2147483647; it modulo how many WALKERS";
        int[] seeds = {1, 2, 44488, 44489, 1000000007, 2147483645, LAST_SEED};
        String[] roads = {"r7 m13 m23 m33 m43 m53 w30", "r7 m13 m23 m33 m43 m53 w30 w36",
            "r7 m13 m23 m33 m43 m53 w30 w36 b06", "r7 m13 m23 m33 m43 m53 w30 w36 b06 c63",
            "r7 m13 m23 m33 m43 m53 w30 w36 b06 c63 p16"};
        for (int walkers = 1; walkers <= roads.length; walkers++) {
            for (int seed : seeds) {
                for (int n : new int[] {1, 2, 3, 59, 60}) {
                    int[] row = rowOf(n, seed, walkers);
                    Edge road = Edge.of(38, lots).road(roads[walkers - 1]);
                    MilestonesOn walked = new MilestonesOn();
                    Due.write(walked, 0, roads[walkers - 1]);
                    walked.road(0);
                    Due.lay(walked, 0, row);
                    walked.walks(0);
                    road.asks(walked.apart(), fullest(walked), x -> x.years(n, seed));
                }
            }
        }
        // M less 48271, then M less 182605794: modulo 5 these are 1 and 3
        Edge.of(38, lots).road("r7 m13 l34 l32 l23 l21 l43").asks(2, 2, x -> x.years(1, LAST_SEED))
            .asks(1, 1, x -> x.years(2, LAST_SEED));
    }

    // ---- all of them, on one object

    private static final List<ToLongFunction<MilestonesOn>> QUESTIONS = List.of(x -> x.mark(1, 1), x -> x.mark(2, 2),
        x -> x.pays(2), x -> x.standings(0, 0), x -> x.standings(1, 3), x -> x.standings(3, 3), x -> x.look(0),
        x -> x.look(2), x -> x.look(3), x -> x.fewest(), x -> x.all(), x -> x.best(), x -> x.nearest(),
        x -> x.brings(0, 0), x -> x.brings(1, 6), x -> x.earn(1), x -> x.earn(3), x -> x.earn(4), x -> x.moved(0),
        x -> x.moved(1), x -> x.who(0), x -> x.who(1), x -> 1000 * x.odds(0, 2, 4) * x.upper() + x.lower(),
        x -> 1000 * x.odds(1, NONE, 2) * x.upper() + x.lower(), x -> x.years(3, 7), x -> x.apart());

    /** What was asked ahead, and of what STANDING, LAW or ROAD, makes no difference. */
    private static void oneBehindTheOther() {
        Edge road = Edge.of(Edge.TERMS, "---- 4 bringing home (from as it is; it stays).")
            .road("r7 m12 m60 m34 w06 c50 b16 t63 l21").row(0, 2, 1, 4).row(1, 2, 0, 3);
        List<Consumer<MilestonesOn>> changes = List.of(x -> { }, x -> x.walk(1), x -> x.law(2), x -> x.walk(3),
            x -> {
                Due.write(x, 1, "r4 m13 m33 m40 w30 c20 b12 t31 l21");
                x.road(1);
            });
        for (Consumer<MilestonesOn> change : changes) {
            for (ToLongFunction<MilestonesOn> last : QUESTIONS) {
                long alone = Edge.answers(road.given(change), x -> bothTold(x, last));
                for (ToLongFunction<MilestonesOn> first : QUESTIONS) {
                    road.takes(alone, x -> {
                        first.applyAsLong(x);
                        change.accept(x);
                        return bothTold(x, last);
                    });
                }
            }
        }
    }

    /** The answer and what asked() tells, in one number. */
    private static long bothTold(MilestonesOn x, ToLongFunction<MilestonesOn> question) {
        x.row(3, 1);
        x.at(3, 0);
        x.tear(3);
        long answer = question.applyAsLong(x);
        return 100_000 * answer + x.asked();
    }

    private static int[] rowOf(int n, int seed, int walkers) {
        int[] row = new int[n];
        BigInteger lot = BigInteger.valueOf(seed);
        for (int i = 0; i < n; i++) {
            lot = lot.multiply(BigInteger.valueOf(48271)).mod(BigInteger.valueOf(2147483647));
            row[i] = lot.mod(BigInteger.valueOf(walkers)).intValue();
        }
        return row;
    }

    private static int fullest(MilestonesOn x) {
        int best = 0;
        int most = -1;
        for (int p = 0; p < x.count(0); p++) {
            x.sees(p);
            if (x.asked() > most) {
                most = x.asked();
                best = p;
            }
        }
        return best;
    }
}
