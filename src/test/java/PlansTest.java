/** Promises 17 to 19: ORDER, AHEAD, OFTEN. */
public final class PlansTest {
    private static final Check CHECK = new Check("PlansTest");
    private static final int NONE = MiddlePlank.NONE, BAD = MiddlePlank.BAD, NOT = MiddlePlank.NOT;

    public static void main(String[] args) {
        mostCross();
        leastTolls();
        leastRow();
        orderOfFewer();
        orderWithoutSomething();
        ahead();
        often();
        CHECK.end();
    }

    private static void row(String call, MiddlePlank x, int... due) {
        for (int i = 0; i < 8; i++) {
            CHECK.due("17: " + call + " order(" + (2 + i) + ")", x.order(2 + i), i < due.length ? due[i] : NONE);
        }
    }

    /** From GAP 1 the first would meet three HOLES; the second draws the GAP back to 0. */
    private static void mostCross() {
        MiddlePlank x = Check.bridge("..rr.", "p6w2;c1w1", "");
        x.set(1, 1);
        CHECK.due("17: how many", x.order(0), 2);
        CHECK.due("17: TOLLS", x.order(1), 3);
        row("most", x, 1, 0);
        CHECK.due("17: what 10", x.order(10), BAD);
        CHECK.due("17: what -1", x.order(-1), BAD);
    }

    /** The heavy one pays less where the GAP is beside the rotten PLANK, and all CROSS anyway. */
    private static void leastTolls() {
        MiddlePlank x = Check.bridge("..r..", "h6w9;p1w1", "");
        x.set(1, 0);
        CHECK.due("17: how many", x.order(0), 2);
        CHECK.due("17: TOLLS", x.order(1), 2);
        row("tolls", x, 1, 0);
    }

    private static void leastRow() {
        MiddlePlank x = Check.bridge("...", "g1w1;g1w1;g1w0", "ccc");
        CHECK.due("17: how many", x.order(0), 2);
        CHECK.due("17: TOLLS", x.order(1), 2);
        row("least", x, 0, 1, 2);
        x.type(2, 'a');
        CHECK.due("17: in place of CROSSINGS", x.order(0), 2);
    }

    /** The plan of three must leave nothing behind for the plan of two. */
    private static void orderOfFewer() {
        MiddlePlank x = Check.bridge("..r..", "h6w9;p1w1;p1w9", "");
        x.set(1, 0);
        CHECK.due("17: three", x.order(0), 3);
        for (int i = 0; i < 5; i++) {
            x.undo(1);
        }
        CHECK.due("17: two of three", x.order(0), 2);
        CHECK.due("17: two of three, TOLLS", x.order(1), 2);
        row("two of three", x, 1, 0);
    }

    private static void orderWithoutSomething() {
        MiddlePlank x = Check.bridge("", "g1w1;g1w1", "");
        CHECK.due("17: no PLANKS, how many", x.order(0), 0);
        CHECK.due("17: no PLANKS, TOLLS", x.order(1), 0);
        row("no PLANKS", x, 0, 1);
        MiddlePlank dry = Check.bridge("..", "g1w1;g1w1", "");
        dry.set(0, 1);
        CHECK.due("17: no river", dry.order(0), 0);
        row("no river", dry, 0, 1);
        MiddlePlank nobody = Check.bridge("..", "", "ab");
        CHECK.due("17: no CROSSERS, how many", nobody.order(0), 0);
        CHECK.due("17: no CROSSERS, TOLLS", nobody.order(1), 0);
        row("no CROSSERS", nobody);
    }

    private static void ahead() {
        MiddlePlank x = Check.bridge("..rr.", "p6w2;p1w0;g1w1;c1w1;c1w1", "");
        x.set(1, 1);
        CHECK.due("18: the least that helps", x.ahead(0), 3);
        CHECK.due("18: none helps", x.ahead(1), NONE);
        CHECK.due("18: it does anyway", x.ahead(2), NOT);
        CHECK.due("18: no such CROSSER", x.ahead(5), BAD);
        CHECK.due("18: crosser -1", x.ahead(-1), BAD);
        x.type(2, 'd');
        CHECK.due("18: behind CROSSINGS", x.ahead(0), NOT);
        x.set(0, 1);
        CHECK.due("18: IDLE", x.ahead(2), NONE);
        x.wipe(0);
        CHECK.due("18: no PLANKS", x.ahead(2), NONE);
    }

    private static void often() {
        MiddlePlank x = Check.bridge("...rrr.........", "p6w3;c1w9;p1w0;p1e9", "");
        x.set(1, 6);
        x.shift(2, 1);
        CHECK.due("19: one on, away from the rotten ones", x.often(0, 1), 1);
        CHECK.due("19: one back, onto a rotten one", x.often(0, 3), 1);
        CHECK.due("19: by none, who TURNS BACK", x.often(0, 2), NONE);
        CHECK.due("19: it does anyway", x.often(1, 2), 0);
        x.shift(2, 0);
        CHECK.due("19: by none, who leaves the GAP", x.often(0, 1), NONE);
        CHECK.due("19: of itself", x.often(0, 0), BAD);
        CHECK.due("19: no such CROSSER", x.often(4, 0), BAD);
        CHECK.due("19: no such other one", x.often(0, 4), BAD);
        CHECK.due("19: crosser -1", x.often(-1, 0), BAD);
        CHECK.due("19: other -1", x.often(0, -1), BAD);
        x.type(2, 'd');
        CHECK.due("19: behind CROSSINGS", x.often(0, 1), 0);
        x.set(0, 1);
        CHECK.due("19: IDLE", x.often(1, 2), NONE);
        oftenToNine();
    }

    /** Beside a rotten PLANK the GAP makes a row of two; by steps of 3 it comes from 8 onto PLANK 0 in 10. */
    private static void oftenToNine() {
        MiddlePlank x = Check.bridge("r..r..r..r..r..r..r", "p6w1;c1w9", "");
        x.shift(2, 3);
        x.set(1, 11);
        CHECK.due("19: nine times", x.often(0, 1), 9);
        x.set(1, 8);
        CHECK.due("19: ten times are too many", x.often(0, 1), NONE);
    }
}
