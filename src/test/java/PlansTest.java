/** Promises 17 to 19: ORDER, AHEAD, OFTEN. */
public final class PlansTest {
    private static final Check CHECK = new Check("PlansTest");
    private static final int NONE = MiddlePlank.NONE, BAD = MiddlePlank.BAD, NOT = MiddlePlank.NOT;

    public static void main(String[] args) {
        mostCross();
        leastTolls();
        leastRow();
        orderOfFewer();
        orderWithoutSomething();
        orderOfEight();
        orderInPlaceOfCrossings();
        mostCrossAheadOfTolls();
        leastOfLikeRows();
        orderKeepsWhoTurnsBack();
        orderAnew();
        ahead();
        aheadByEachOther();
        aheadByNone();
        aheadByABride();
        often();
        CHECK.end();
    }

    private static void row(String call, MiddlePlank x, int... due) {
        for (int i = 0; i < 8; i++) {
            CHECK.due("17: " + call + " order(" + (2 + i) + ")", x.order(2 + i), i < due.length ? due[i] : NONE);
        }
    }

    /** From GAP 1 the first would meet three HOLES; the second draws the GAP back to 0. */
    private static void mostCross() {
        MiddlePlank x = Check.bridge("..rr.", "p6w2;c1w1", "");
        x.set(1, 1);
        CHECK.due("17: how many", x.order(0), 2);
        CHECK.due("17: TOLLS", x.order(1), 3);
        row("most", x, 1, 0);
        CHECK.due("17: what 10", x.order(10), BAD);
        CHECK.due("17: what -1", x.order(-1), BAD);
    }

    /** The heavy one pays less where the GAP is beside the rotten PLANK, and all CROSS anyway. */
    private static void leastTolls() {
        MiddlePlank x = Check.bridge("..r..", "h6w9;p1w1", "");
        x.set(1, 0);
        CHECK.due("17: how many", x.order(0), 2);
        CHECK.due("17: TOLLS", x.order(1), 2);
        row("tolls", x, 1, 0);
        x.wipe(0);
        CHECK.due("17: PLANKS wiped, how many", x.order(0), 0);
        row("PLANKS wiped", x, 0, 1);
    }

    private static void leastRow() {
        MiddlePlank x = Check.bridge("...", "g1w1;g1w1;g1w0", "ccc");
        CHECK.due("17: how many", x.order(0), 2);
        CHECK.due("17: TOLLS", x.order(1), 2);
        row("least", x, 0, 1, 2);
        x.type(2, 'a');
        CHECK.due("17: in place of CROSSINGS", x.order(0), 2);
    }

    /** The plan of three must leave nothing behind for the plan of two. */
    private static void orderOfFewer() {
        MiddlePlank x = Check.bridge("..r..", "h6w9;p1w1;p1w9", "");
        x.set(1, 0);
        CHECK.due("17: three", x.order(0), 3);
        for (int i = 0; i < 5; i++) {
            x.undo(1);
        }
        CHECK.due("17: two of three", x.order(0), 2);
        CHECK.due("17: two of three, TOLLS", x.order(1), 2);
        row("two of three", x, 1, 0);
        fewerForgetTheThird();
    }

    /** Behind 1, 0 the third CROSSES (from GAP 0), behind 0, 1 it does not (from 2): without it that is no reason. */
    private static void fewerForgetTheThird() {
        MiddlePlank x = Check.bridge("...rr....", "b1w1;p1w1;g6w2", "");
        x.set(1, 7);
        CHECK.due("17: with the third", x.order(0), 3);
        CHECK.due("17: with the third, TOLLS", x.order(1), 3);
        row("with the third", x, 0, 2, 1);
        for (int i = 0; i < 5; i++) {
            x.undo(1);
        }
        CHECK.due("17: without it", x.order(0), 2);
        CHECK.due("17: without it, TOLLS", x.order(1), 1);
        row("without it", x, 0, 1);
    }

    private static void orderWithoutSomething() {
        MiddlePlank x = Check.bridge("", "g1w1;g1w1", "");
        CHECK.due("17: no PLANKS, how many", x.order(0), 0);
        CHECK.due("17: no PLANKS, TOLLS", x.order(1), 0);
        row("no PLANKS", x, 0, 1);
        MiddlePlank dry = Check.bridge("..", "g1w1;g1w1", "");
        dry.set(0, 1);
        CHECK.due("17: no river", dry.order(0), 0);
        row("no river", dry, 0, 1);
        MiddlePlank nobody = Check.bridge("..", "", "ab");
        CHECK.due("17: no CROSSERS, how many", nobody.order(0), 0);
        CHECK.due("17: no CROSSERS, TOLLS", nobody.order(1), 0);
        row("no CROSSERS", nobody);
    }

    private static void ahead() {
        MiddlePlank x = Check.bridge("..rr.", "p6w2;p1w0;g1w1;c1w1;c1w1", "");
        x.set(1, 1);
        CHECK.due("18: the least that helps", x.ahead(0), 3);
        CHECK.due("18: none helps", x.ahead(1), NONE);
        CHECK.due("18: it does anyway", x.ahead(2), NOT);
        CHECK.due("18: no such CROSSER", x.ahead(5), BAD);
        CHECK.due("18: crosser -1", x.ahead(-1), BAD);
        x.type(2, 'd');
        CHECK.due("18: behind CROSSINGS", x.ahead(0), NOT);
        x.set(0, 1);
        CHECK.due("18: IDLE", x.ahead(2), NONE);
        x.wipe(0);
        CHECK.due("18: no PLANKS", x.ahead(2), NONE);
    }

    private static void often() {
        MiddlePlank x = Check.bridge("...rrr.........", "p6w3;c1w9;p1w0;p1e9", "");
        x.set(1, 6);
        x.shift(2, 1);
        CHECK.due("19: one on, away from the rotten ones", x.often(0, 1), 1);
        CHECK.due("19: one back, onto a rotten one", x.often(0, 3), 1);
        CHECK.due("19: by none, who TURNS BACK", x.often(0, 2), NONE);
        CHECK.due("19: it does anyway", x.often(1, 2), 0);
        x.shift(2, 0);
        CHECK.due("19: by none, who leaves the GAP", x.often(0, 1), NONE);
        CHECK.due("19: of itself", x.often(0, 0), BAD);
        CHECK.due("19: no such CROSSER", x.often(4, 0), BAD);
        CHECK.due("19: no such other one", x.often(0, 4), BAD);
        CHECK.due("19: crosser -1", x.often(-1, 0), BAD);
        CHECK.due("19: other -1", x.often(0, -1), BAD);
        x.type(2, 'd');
        CHECK.due("19: behind CROSSINGS", x.often(0, 1), 0);
        x.set(0, 1);
        CHECK.due("19: IDLE", x.often(1, 2), NONE);
        oftenToNine();
    }

    /** "another CROSSER that had better CROSS just ahead of it, so that it CROSSES, the least": each may be the one. */
    private static void aheadByEachOther() {
        for (int late = 0; late < 8; late++) {
            for (int early = 0; early < 8; early++) {
                if (early != late) {
                    StringBuilder eight = new StringBuilder("g1w1;g1w1;g1w1;g1w1;g1w1;g1w1;g1w1;g1w1");
                    eight.replace(5 * late, 5 * late + 4, "p6w2");
                    eight.replace(5 * early, 5 * early + 4, "c1w1");
                    MiddlePlank x = Check.bridge("..rr.", eight.toString(), "");
                    x.set(1, 1);
                    CHECK.due("18: " + early + " ahead of " + late, x.ahead(late), early);
                    CHECK.due("18: " + early + " does anyway", x.ahead(early), NOT);
                }
            }
        }
    }

    private static void aheadByNone() {
        MiddlePlank alone = Check.bridge("..rr.", "p6w2", "");
        alone.set(1, 1);
        CHECK.due("18: no other one", alone.ahead(0), NONE);
        MiddlePlank back = Check.bridge("..rr.", "p6w2;c1w0;c6w2", "");
        back.set(1, 1);
        CHECK.due("18: others TURN BACK", back.ahead(0), NONE);
        MiddlePlank worse = Check.bridge("rrr.", "p6w2;p1w1", "");
        CHECK.due("18: wherever the GAP is", worse.ahead(0), NONE);
        MiddlePlank twice = Check.bridge("...rr.....", "p6w2;p1e1", "");
        twice.set(1, 2);
        twice.shift(0, 0);
        CHECK.due("18: no SHIFT", twice.ahead(0), NONE);
        twice.shift(0, 1);
        CHECK.due("18: one to the west", twice.ahead(0), 1);
        CHECK.due("18: it tells, it does not send", twice.gap(0), 2);
    }

    /** A bride who is thrown may help too. */
    private static void aheadByABride() {
        MiddlePlank x = Check.bridge("..rr...", "p6w2;b1w1", "");
        x.set(1, 1);
        CHECK.due("18: thrown from 1 to 5", x.ahead(0), 1);
        CHECK.due("19: once", x.often(0, 1), 1);
        x.set(0, 8);
        CHECK.due("18: at full river she TURNS BACK", x.ahead(0), NONE);
        CHECK.due("19: at full river she TURNS BACK", x.often(0, 1), NONE);
    }

    /** "the fewest times (0 to 9)": beside a rotten PLANK the GAP makes a row of two; by steps of 3 it leaves. */
    private static void oftenToNine() {
        int[] begins = {0, 16, 13, 10, 7, 4, 1, 17, 14, 11, 8};
        for (int times = 0; times < begins.length; times++) {
            MiddlePlank x = Check.bridge("r..r..r..r..r..r..r", "p6w1;c1w9", "");
            x.shift(2, 3);
            x.set(1, begins[times]);
            CHECK.due("19: from " + begins[times], x.often(0, 1), times <= 9 ? times : NONE);
        }
    }

    /** "of all rows in which each CROSSER crosses once", of 0 to 8. */
    private static void orderOfEight() {
        String eight = "g1w1;g1e1;g1w1;g1e1;g1w1;g1e1;g1w1;g1e1";
        for (int n = 0; n <= 8; n++) {
            MiddlePlank x = Check.bridge("....", eight.substring(0, Math.max(5 * n - 1, 0)), "");
            CHECK.due("17: of " + n + ", how many", x.order(0), n);
            CHECK.due("17: of " + n + ", TOLLS", x.order(1), n);
            for (int i = 0; i < 8; i++) {
                CHECK.due("17: of " + n + ", the " + i + "-th", x.order(2 + i), i < n ? i : NONE);
            }
            CHECK.due("17: of " + n + ", no ninth", x.order(10), BAD);
        }
        // Where the GAP is on a rotten PLANK, 4 or 5, the last one pays 1; on 3 it TURNS BACK, else it pays 2.
        MiddlePlank last = Check.bridge("....rr.....", "p1w1;p1w1;p1w1;p1w1;p1w1;p1w1;p1w1;g6w2", "");
        last.set(1, 2);
        CHECK.due("17: the last one, how many", last.order(0), 8);
        CHECK.due("17: the last one, TOLLS", last.order(1), 8);
        row("the last one", last, 0, 1, 2, 7, 3, 4, 5, 6);
    }

    /** "ORDER, in place of CROSSINGS": from BEGIN on, wherever CROSSINGS lead. */
    private static void orderInPlaceOfCrossings() {
        MiddlePlank x = Check.bridge("..rr.", "p6w2;c1w1", "b");
        x.set(1, 1);
        CHECK.due("17: the GAP behind CROSSINGS", x.gap(1), 0);
        CHECK.due("17: how many from BEGIN", x.order(0), 2);
        row("from BEGIN", x, 1, 0);
        x.set(1, 0);
        CHECK.due("17: how many from another BEGIN", x.order(0), 2);
        row("from another BEGIN", x, 0, 1);
    }

    /** "that by which most CROSS, of like ones by which the TOLLS are least": one alone would pay less. */
    private static void mostCrossAheadOfTolls() {
        MiddlePlank x = Check.bridge("r.r.r.r.rr.", "p1w1;p6w2;c1w0", "");
        x.set(1, 0);
        CHECK.due("17: most, though they pay more", x.order(0), 2);
        CHECK.due("17: what they pay", x.order(1), 6);
        row("most, though they pay more", x, 1, 0, 2);
    }

    /** "of like ones the least": by the first place, then by the second and on. */
    private static void leastOfLikeRows() {
        MiddlePlank x = Check.bridge("..rr.", "p6w2;c1w1;g1w1;g1w1", "");
        x.set(1, 1);
        CHECK.due("17: all CROSS", x.order(0), 4);
        row("the least that is best", x, 1, 0, 2, 3);
        MiddlePlank y = Check.bridge("..rr.", "g1w1;p6w2;g1w1;c1w1", "");
        y.set(1, 1);
        row("the least behind the first", y, 0, 2, 3, 1);
    }

    /** Who TURNS BACK has a place in the row all the same, the least that leaves the rest as good. */
    private static void orderKeepsWhoTurnsBack() {
        MiddlePlank x = Check.bridge("....", "g1w0;g1w1;b1w0;b1w1", "");
        CHECK.due("17: two CROSS", x.order(0), 2);
        CHECK.due("17: one pays", x.order(1), 1);
        row("who TURNS BACK", x, 0, 1, 2, 3);
        MiddlePlank nobody = Check.bridge("....", "g1w0;b1w0", "");
        CHECK.due("17: nobody CROSSES", nobody.order(0), 0);
        CHECK.due("17: nobody pays", nobody.order(1), 0);
        row("nobody CROSSES", nobody, 0, 1);
    }

    /** ORDER is of what stands then, whatever was asked before. */
    private static void orderAnew() {
        MiddlePlank x = Check.bridge("..rr.", "p6w2;c1w1", "");
        x.set(1, 1);
        row("before", x, 1, 0);
        x.shift(2, 0);
        CHECK.due("17: behind shift()", x.order(0), 1);
        row("behind shift()", x, 0, 1);
        x.shift(2, -1);
        row("as before", x, 1, 0);
        x.set(0, 0);
        row("behind set(0)", x, 0, 1);
        x.set(0, 5);
        x.set(1, 4);
        CHECK.due("17: behind set(1)", x.order(1), 2);
        x.wipe(0);
        CHECK.due("17: behind wipe(0)", x.order(0), 0);
        row("behind wipe(0)", x, 0, 1);
        Check.type(x, 0, ".");
        CHECK.due("17: behind type(0)", x.order(0), 2);
        x.undo(1);
        CHECK.due("17: behind undo(1)", x.order(0), 0);
        row("behind undo(1)", x);
    }
}
