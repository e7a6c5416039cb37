/** What the hand-written tests share: answers held against what is due, roads written from strings. */
final class Due {
    private static int wrong = 0;
    private static int held = 0;

    private Due() { }

    static void is(String what, long got, long want) {
        held++;
        if (got != want) {
            wrong++;
            System.out.println(what + " answered " + got + ", due is " + want);
        }
    }

    /** Both the answer of a call that tells by asked(), and what it told. */
    static void tells(String what, MilestonesOn x, int got, int want, int asked) {
        is(what, got, want);
        is(what + ", asked()", x.asked(), asked);
    }

    /** A FINDING: the answer, which one, and that it was counted once. */
    static void finds(String what, MilestonesOn x, int before, int got, int finding) {
        is(what, got, MilestonesOn.FINDING);
        is(what + ", finding()", x.finding(), finding);
        is(what + ", findings(" + finding + ")", x.findings(finding), before + 1);
    }

    static void write(MilestonesOn x, int t, String text) {
        x.text(t, text.length());
        for (int i = 0; i < text.length(); i++) {
            x.put(t, i, text.charAt(i));
        }
    }

    static MilestonesOn road(String text) {
        MilestonesOn x = new MilestonesOn();
        write(x, 0, text);
        if (x.road(0) < 0) {
            wrong++;
            System.out.println("no road: " + text);
        }
        return x;
    }

    static void lay(MilestonesOn x, int r, int... values) {
        x.row(r, values.length);
        for (int i = 0; i < values.length; i++) {
            x.lay(r, i, values[i]);
        }
    }

    static void row(String what, MilestonesOn x, int r, int... values) {
        for (int i = 0; i < values.length; i++) {
            is(what + ", at(" + r + ", " + i + ")", x.at(r, i), 1);
            is(what + ", place " + i, x.asked(), values[i]);
        }
        is(what + ", size", x.at(r, values.length), MilestonesOn.FINDING);
    }

    static void finish(String name) {
        System.out.println(name + ": " + held + " answers held, " + wrong + " wrong");
        if (wrong != 0) {
            System.exit(1);
        }
    }
}
