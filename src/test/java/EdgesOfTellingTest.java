import java.util.ArrayList;
import java.util.List;
import java.util.function.ToLongFunction;

/** The edges of promises 39 to 45: what is told. */
public final class EdgesOfTellingTest {
    private static final int BAD = Edge.BAD, STATE = Edge.STATE, NONE = Edge.NONE;
    private static final int NOTHING = Edge.NOTHING, BEYOND = Edge.BEYOND, UNLIKE = Edge.UNLIKE;
    private static final int NOUGHT = Edge.NOUGHT, SIZE = Edge.SIZE;
    private static final int MAX = Edge.MAX, MIN = Edge.MIN;
    private static final int TOLD = -77, MOST = 60;
    private static final String ROAD = "r4 m12 m30 m93 l21 l10 t32 b03 w03";

    public static void main(String[] args) {
        asked();
        askedStays();
        askedOfNone();
        fractions();
        count();
        countFull();
        finding();
        findings();
        digestOfNew();
        digestOfKept();
        digestOfFull();
        digestStays();
        Edge.finish("EdgesOfTellingTest", 39, 45);
    }

    /** What asked() answers behind a call. */
    private static ToLongFunction<MilestonesOn> askedBehind(ToLongFunction<MilestonesOn> call) {
        return x -> {
            call.applyAsLong(x);
            return x.asked();
        };
    }

    // ---- 39: asked

    private static void asked() {
        Edge told = Edge.of(39, "What the latest lay(), at(), mean(), stone(), walker(), pays(), apart(), sees(), "
            + "standings(), look(), fewest(), all(), best(), nearest(), earn(), moved(), who(), years() that was not "
            + "refused (nor NONE) told").road(ROAD).row(0, 5, 8).row(1, 1, 0, 3);
        told.takes(8, askedBehind(x -> x.lay(0, 1, 3))).takes(5, askedBehind(x -> x.at(0, 0)))
            .takes(6, askedBehind(x -> x.mean(0))).takes(3, askedBehind(x -> x.stone(1, 0)))
            .takes(4, askedBehind(x -> x.walker(2, 0))).takes(3, askedBehind(x -> x.pays(0)))
            .takes(0, askedBehind(x -> x.apart())).takes(1, askedBehind(x -> x.sees(2)))
            .takes(1, askedBehind(x -> x.standings(0, 0))).takes(1, askedBehind(x -> x.look(0)))
            .takes(1, askedBehind(x -> x.moved(1))).takes(1, askedBehind(x -> x.who(1)))
            .takes(3, askedBehind(x -> x.earn(1)));
        Edge home = Edge.of(39, "fewest(), all(), best(), nearest()").road("r3 m11 m91 l10 c10 w10");
        home.takes(2, askedBehind(x -> x.fewest())).takes(1, askedBehind(x -> x.all()))
            .takes(1, askedBehind(x -> x.best())).takes(1, askedBehind(x -> x.nearest()))
            .takes(0, askedBehind(x -> x.years(1, 1)));
        told.takes(5, askedBehind(x -> x.at(0, 1) + x.at(0, 0))).takes(5, askedBehind(x -> x.at(0, 0) + x.asked()));
    }

    private static void askedStays() {
        Edge stays = Edge.of(39, "What the latest").road(ROAD).row(0, 5, 8).row(1, 0, 0).row(2, 9).text(1, "r2")
            .given(x -> x.keep(0));
        List<ToLongFunction<MilestonesOn>> taken = new ArrayList<>(List.of(x -> x.row(3, 4), x -> x.tear(0),
            x -> x.copy(0, 0, 1, 0, 1), x -> x.text(2, 3), x -> x.put(1, 0, 7), x -> x.fault(1), x -> x.road(1),
            x -> x.mark(0, 3), x -> x.mark(2, 4), x -> x.law(1), x -> x.walk(0), x -> x.undo(0), x -> x.walks(1),
            x -> x.where(2), x -> x.keep(1), x -> x.on(0), x -> x.may(1), x -> x.way(3), x -> x.brings(0, 0),
            x -> x.odds(0, 0, 1), x -> x.upper(), x -> x.lower(), x -> x.asked(), x -> x.finding(), x -> x.digest()));
        for (int i = 0; i <= 8; i++) {
            int what = i;
            taken.add(x -> x.count(what));
            taken.add(x -> x.findings(what));
        }
        for (ToLongFunction<MilestonesOn> call : taken) {
            stays.takes(TOLD, askedBehind(call));
        }
        List<ToLongFunction<MilestonesOn>> refused = List.of(x -> x.lay(0, 2, 1), x -> x.lay(4, 0, 1), x -> x.at(0, 2),
            x -> x.at(6, 0), x -> x.mean(4), x -> x.stone(3, 0), x -> x.stone(0, 4), x -> x.walker(5, 0), x -> x.pays(5),
            x -> x.sees(4), x -> x.standings(4, 0), x -> x.standings(0, 4), x -> x.look(4), x -> x.earn(0),
            x -> x.moved(2), x -> x.moved(4), x -> x.who(2), x -> x.who(4), x -> x.years(0, 1), x -> x.years(1, 0));
        for (ToLongFunction<MilestonesOn> call : refused) {
            stays.takes(TOLD, askedBehind(call));
        }
    }

    private static void askedOfNone() {
        Edge none = Edge.of(39, "that was not refused (nor NONE) told").road("r3 m11 w12").row(0, 0).row(1, 1);
        none.takes(TOLD, askedBehind(x -> x.fewest())).takes(TOLD, askedBehind(x -> x.moved(0)))
            .takes(TOLD, askedBehind(x -> x.who(0))).takes(TOLD, askedBehind(x -> x.who(1)))
            .takes(1, askedBehind(x -> x.moved(1))).takes(NONE, askedBehind(x -> x.best()));
        Edge bare = Edge.of(39, "that was not refused (nor NONE) told");
        bare.takes(TOLD, askedBehind(x -> x.fewest())).takes(TOLD, askedBehind(x -> x.best()))
            .takes(TOLD, askedBehind(x -> x.look(0))).takes(TOLD, askedBehind(x -> x.earn(1)))
            .takes(TOLD, askedBehind(x -> x.years(1, 1))).takes(0, askedBehind(x -> x.all()))
            .takes(0, askedBehind(x -> x.nearest())).takes(0, askedBehind(x -> x.apart()));
    }

    // ---- 40, 41: upper, lower

    private static void fractions() {
        Edge upper = Edge.of(40, "The upper number of the fraction that was told last; 0 before.").road("r3 m10 l01 l12 w21");
        upper.takes(2, x -> x.upper()).takes(1, x -> x.odds(0, 1, 1) * x.upper()).takes(0, x -> x.odds(0, 2, 1) * x.upper())
            .takes(2, x -> x.odds(0, 0, 5) * -x.upper()).takes(2, x -> x.odds(3, 0, 1) * -x.upper())
            .takes(4, x -> x.odds(0, 0, 2) * x.upper()).takes(16, x -> x.odds(0, 0, 4) * x.upper())
            .stays(2, x -> x.upper());
        Edge lower = Edge.of(41, "Its lower number; 1 before.").road("r3 m10 l01 l12 w21");
        lower.takes(3, x -> x.lower()).takes(1, x -> x.odds(0, 2, 1) * x.lower()).takes(81, x -> x.odds(0, 0, 4) * x.lower())
            .takes(1, x -> x.odds(0, 0, 0) * x.lower()).takes(3, x -> x.odds(0, 0, 5) * -x.lower()).stays(3, x -> x.lower());
        Edge.of(40, "0 before.").takes(0, x -> x.upper()).road("r3 m11").finds(NOUGHT, x -> x.odds(0, 1, 1))
            .takes(0, x -> x.upper());
        Edge.of(41, "1 before.").takes(1, x -> x.lower()).road("r3 m11").finds(NOUGHT, x -> x.odds(0, 1, 1))
            .takes(1, x -> x.lower());
    }

    // ---- 42: count

    private static void count() {
        Edge what = Edge.of(42, "0 POSTS, 1 STONES, 2 how many are LOST, 3 WALKERS, 4 WALKS done, 5 BOTH (PILGRIMS, too), 6 "
            + "ROWS, 7 TEXTS that are there, 8 LAME ones (THIEVES, too). BAD.");
        what.refuses(BAD, x -> x.count(-1)).refuses(BAD, x -> x.count(9)).refuses(BAD, x -> x.count(MAX))
            .refuses(BAD, x -> x.count(MIN));
        counts(what.road("r2"), 2, 0, 0, 0, 0, 0, 0, 1, 0);
        counts(what.road("r3 m10 w01 c01"), 3, 1, 0, 2, 0, 0, 0, 1, 0);
        counts(what.road("r3 m10 b01 p01 l01 t01 b10").walked(3, 0), 3, 1, 1, 5, 2, 3, 0, 1, 2);
        counts(what.road("r3 m10 l01 l01 t01 t01 l10").row(3).text(3, ""), 3, 1, 0, 5, 0, 0, 1, 2, 5);
        counts(what.road("r3 m10 p01 p01 b01 b01 b10").row(5, 1).given(x -> x.tear(5)), 3, 1, 0, 5, 0, 5, 0, 1, 0);
    }

    private static void counts(Edge one, int... due) {
        for (int i = 0; i < due.length; i++) {
            int what = i;
            one.stays(due[i], x -> x.count(what));
        }
    }

    private static void countFull() {
        Edge full = Edge.of(42, "TEXTS that are there").road("r7 m10 m20 m30 m40 m50 t01 t01 t01 t01 t01")
            .given(x -> x.row(0, MOST)).given(x -> x.walks(0));
        for (int i = 0; i < 6; i++) {
            int one = i;
            full = full.given(x -> x.row(one, MOST)).given(x -> x.text(Math.min(one, 3), 0));
        }
        counts(full.given(x -> x.tear(5)), 7, 5, 5, 5, 60, 0, 5, 4, 5);
        full.takes(6, x -> x.count(6));
    }

    // ---- 43, 44: finding, findings

    private static void finding() {
        Edge latest = Edge.of(43, "The latest FINDING (0 before any).").row(0, 1).row(1).road("r3 m10 w01");
        latest.takes(NOTHING, findingBehind(x -> x.tear(4))).takes(BEYOND, findingBehind(x -> x.at(0, 1)))
            .takes(UNLIKE, findingBehind(x -> x.mark(0, 1))).takes(NOUGHT, findingBehind(x -> x.mean(1)))
            .takes(SIZE, findingBehind(x -> x.row(0, -1)));
        List<ToLongFunction<MilestonesOn>> others = List.of(x -> x.row(6, 0), x -> x.row(0, 2), x -> x.road(0),
            x -> x.earn(5), x -> x.mark(0, 0), x -> x.findings(NOTHING), x -> x.findings(6), x -> x.fewest());
        for (ToLongFunction<MilestonesOn> other : others) {
            latest.takes(SIZE, findingBehind(x -> x.tear(4) + x.row(0, -1) + other.applyAsLong(x)));
        }
        latest.takes(NOTHING, findingBehind(x -> x.row(0, -1) + x.tear(4)));
    }

    private static ToLongFunction<MilestonesOn> findingBehind(ToLongFunction<MilestonesOn> calls) {
        return x -> {
            calls.applyAsLong(x);
            return x.finding();
        };
    }

    private static void findings() {
        Edge often = Edge.of(44, "How often a FINDING (1 .. 5) was answered. BAD.").given(x -> {
            x.row(0, 0);
            for (int i = 0; i < 7; i++) {
                x.mean(0);
            }
            for (int i = 0; i < 4; i++) {
                x.at(0, 0);
            }
        });
        often.stays(7, x -> x.findings(NOUGHT)).stays(4, x -> x.findings(BEYOND)).stays(0, x -> x.findings(UNLIKE))
            .stays(0, x -> x.findings(SIZE)).refuses(BAD, x -> x.findings(0)).refuses(BAD, x -> x.findings(6))
            .refuses(BAD, x -> x.findings(-1)).refuses(BAD, x -> x.findings(MAX)).refuses(BAD, x -> x.findings(MIN));
        Edge.of(44, "How often a FINDING (1 .. 5) was answered.").takes(500, ignored -> {
            MilestonesOn x = new MilestonesOn();
            for (int i = 0; i < 500; i++) {
                x.row(0, -1);
            }
            return x.findings(SIZE);
        });
    }

    // ---- 45: digest

    private static long digestOf(List<Integer> values) {
        long h = 17;
        for (int v : values) {
            h = 31 * h + v;
        }
        return h;
    }

    private static void addAll(List<Integer> to, int... values) {
        for (int v : values) {
            to.add(v);
        }
    }

    private static void digestOfNew() {
        List<Integer> due = new ArrayList<>();
        addAll(due, new int[10]);
        for (int i = 0; i < 3 + 6 + 4; i++) {
            due.add(-1);
        }
        Edge.of(45, "(-1 once: missing)").takes(digestOf(due), x -> x.digest());
        List<Integer> empty = new ArrayList<>();
        addAll(empty, 0, 0, 0, 0, 0, 0, 1, 1, 0, 2, -1, -1, -1, 0, -1, -1, -1, -1, -1, -1, -1, -1, 0);
        Edge.of(45, "of each ROW its size (-1: missing) and places, of each TEXT likewise")
            .row(0).given(x -> x.text(3, 0)).given(x -> x.law(2)).takes(digestOf(empty), x -> x.digest());
    }

    private static void digestOfKept() {
        List<Integer> due = new ArrayList<>();
        addAll(due, 3, 2, 1, 2, 2, 0, 0, 1, 1, 1);
        addAll(due, 9, NONE, NONE, 1, 1, 1, 0, 1);
        addAll(due, 4, 0, 1, 9, 0, 0, 2, 1);
        addAll(due, 0, 1);
        addAll(due, 0, 0, 0, -1, NONE, 1, 1);
        addAll(due, -1, -1, -1, -1, -1, -1);
        String road = "r3m90m10t01w02";
        due.add(road.length());
        road.chars().forEach(due::add);
        addAll(due, -1, -1, -1);
        Edge.of(45, "of each kept ROAD POSTS of all STONES (NONE: LOST), LAW (-1 once: missing)").road(road)
            .given(x -> x.keep(0)).given(x -> x.law(1)).walked(0, 1).given(x -> x.keep(2))
            .takes(digestOf(due), x -> x.digest());
        // a kept ROAD without STONES is its LAW alone, and no missing one
        List<Integer> bare = new ArrayList<>();
        addAll(bare, 2, 0, 0, 0, 0, 0, 0, 1, 0, 0, -1, 0, -1, -1, -1, -1, -1, -1, -1, 2, 'r', '2', -1, -1, -1);
        Edge.of(45, "of each kept ROAD POSTS of all STONES").road("r2").given(x -> x.keep(1))
            .takes(digestOf(bare), x -> x.digest());
    }

    private static void digestOfFull() {
        String road = "r7m16m26m36m76m96b60b60b60b60b60" + " ".repeat(28);
        Edge full = Edge.of(45, "of each STONE stone() 0 to 3; of each WALKER walker() 0 to 3; of each WALK done its WALKER")
            .road(road);
        List<Integer> due = new ArrayList<>();
        // the BOTH takes the 1 to POST 5, and back to 6 from there: 60 times, by each WALKER in turn
        addAll(due, 7, 5, 0, 5, 60, 5, 6, 4, 0, 0);
        addAll(due, 1, 6, 0, 120, 2, 6, 1, 0, 3, 6, 2, 0, 7, 6, 6, 0, 9, 6, NONE, 0);
        for (int w = 0; w < 5; w++) {
            addAll(due, 2, 6, 0, 24);
        }
        full = full.given(x -> {
            x.row(0, MOST);
            for (int i = 0; i < MOST; i++) {
                x.lay(0, i, i % 5);
            }
            x.walks(0);
            x.keep(0);
            x.keep(1);
            x.keep(2);
        });
        for (int i = 0; i < MOST; i++) {
            due.add(i % 5);
        }
        for (int k = 0; k < 3; k++) {
            addAll(due, 6, 6, 6, 6, 6, 0);
        }
        for (int r = 0; r < 6; r++) {
            int one = r;
            full = full.given(x -> {
                x.row(one, MOST);
                x.lay(one, 0, MIN + one);
                x.lay(one, 59, MAX - one);
            });
            addAll(due, MOST, MIN + r);
            addAll(due, new int[58]);
            due.add(MAX - r);
        }
        due.add(MOST);
        road.chars().forEach(due::add);
        for (int t = 1; t < 4; t++) {
            int one = t;
            full = full.given(x -> {
                x.text(one, MOST);
                x.put(one, 0, 128 + one);
                x.put(one, 59, 127);
            });
            addAll(due, MOST, -128 + t);
            for (int i = 0; i < 58; i++) {
                due.add(32);
            }
            due.add(127);
        }
        full.takes(digestOf(due), x -> x.digest());
    }

    private static void digestStays() {
        String tells = "(of a call that tells by asked(): what it tells, not the 1 that it answers; asked() stays)";
        Edge.of(45, tells).road(ROAD).stays(TOLD, x -> {
            x.digest();
            return x.asked();
        }).takes(0, x -> x.digest() - x.digest());
        Edge.of(45, "count() 0 to 8; LAW").row(0, 5).takes(1, x -> {
            long before = x.digest();
            x.at(0, 1);
            x.at(4, 0);
            x.sees(9);
            return x.digest() == before ? 1 : 0;
        }).takes(1, x -> {
            long before = x.digest();
            x.row(1, 0);
            x.tear(1);
            x.lay(0, 0, 6);
            x.lay(0, 0, 5);
            return x.digest() == before ? 1 : 0;
        }).takes(0, x -> {
            long before = x.digest();
            x.law(1);
            return x.digest() == before ? 1 : 0;
        });
        Edge.of(45, "h = 17; then h = 31 h + v for each v").refuses(STATE, x -> x.keep(0));
    }
}
