/** Promises 11 to 16: where the GAP is, what comes of CROSSINGS, what is taken. */
public final class CrossingsTest {
    private static final Check CHECK = new Check("CrossingsTest");
    private static final int NONE = MiddlePlank.NONE, BAD = MiddlePlank.BAD;
    private static final int IDLE = 0, CROSSES = 1, TURNS_BACK = 2;

    public static void main(String[] args) {
        gap();
        gapByKind();
        comes();
        rowsOfHoles();
        river();
        times();
        taken();
        stuck();
        worn();
        behind24Crossings();
        timesByWhereTheGapWas();
        stuckAtEachPlace();
        wornFrom0ToAll();
        wornAnew();
        askedBetweenChanges();
        CHECK.end();
    }

    private static void gap() {
        MiddlePlank x = Check.bridge("....", "p1w9", "aaa");
        CHECK.due("11: BEGIN modulo PLANKS", x.gap(0), 1);
        CHECK.due("11: behind one", x.gap(1), 2);
        CHECK.due("11: behind two", x.gap(2), 3);
        CHECK.due("11: round the end", x.gap(3), 0);
        CHECK.due("11: gap(4)", x.gap(4), BAD);
        CHECK.due("11: gap(-1)", x.gap(-1), BAD);
        x.undo(2);
        CHECK.due("11: a CROSSING undone", x.gap(3), BAD);
        x.wipe(0);
        CHECK.due("11: no PLANKS", x.gap(2), NONE);
        CHECK.due("11: no PLANKS and no such number", x.gap(3), BAD);
    }

    private static void gapByKind() {
        MiddlePlank x = Check.bridge(".......", "p1e9;h1w9;c1w9;g1w9;b1e9", "abcde");
        int[] due = {2, 1, 3, 2, 2, 4};
        for (int k = 0; k < due.length; k++) {
            CHECK.due("11: by kinds behind " + k, x.gap(k), due[k]);
        }
        x.shift(0, 9);
        CHECK.due("11: wide SHIFT west, round the end", x.gap(1), 0);
        x.shift(0, -9);
        CHECK.due("11: wide SHIFT back", x.gap(1), 4);
    }

    private static void comes() {
        MiddlePlank x = Check.bridge(".....", "p1w1;p1w0;b1w1;b1w0", "abcdh");
        int[][] due = {{CROSSES, 1, 1}, {TURNS_BACK, 0, 1}, {CROSSES, 0, 1}, {TURNS_BACK, 0, 1}, {IDLE, 0, 0}};
        for (int i = 0; i < due.length; i++) {
            for (int what = 0; what <= 2; what++) {
                CHECK.due("12: comes(" + i + ", " + what + ")", x.comes(i, what), due[i][what]);
            }
        }
        CHECK.due("12: what 3", x.comes(0, 3), BAD);
        CHECK.due("12: what -1", x.comes(0, -1), BAD);
        CHECK.due("12: crossing 5", x.comes(5, 0), BAD);
        CHECK.due("12: crossing -1", x.comes(-1, 0), BAD);
        CHECK.due("12: who TURNS BACK moves no GAP", x.gap(2), x.gap(1));
        x.wipe(0);
        CHECK.due("12: no PLANKS: IDLE", x.comes(0, 0), IDLE);
        CHECK.due("12: no PLANKS: no row", x.comes(0, 2), 0);
    }

    private static void rowsOfHoles() {
        MiddlePlank x = Check.bridge("r.rr.r", "p5w9;p6w9;p6w2", "abc");
        x.set(1, 1);
        x.shift(0, 0);
        CHECK.due("12: light, the GAP alone", x.comes(0, 1), 1);
        CHECK.due("12: light, longest", x.comes(0, 2), 1);
        CHECK.due("12: WEIGHT 6, two rows", x.comes(1, 1), 2);
        CHECK.due("12: WEIGHT 6, GAP joins rotten ones", x.comes(1, 2), 4);
        CHECK.due("12: LEAPS too short", x.comes(2, 0), TURNS_BACK);
        CHECK.due("12: no TOLL", x.comes(2, 1), 0);
        CHECK.due("12: the row was there", x.comes(2, 2), 4);
    }

    private static void river() {
        MiddlePlank x = Check.bridge("....", "p1w9", "a");
        x.set(1, 3);
        x.set(0, 6);
        CHECK.due("12: RIVER 6, one row", x.comes(0, 1), 1);
        x.set(0, 7);
        CHECK.due("12: RIVER 7, the first PLANK too", x.comes(0, 1), 2);
        CHECK.due("12: RIVER 7, rows do not join round the end", x.comes(0, 2), 1);
        x.set(1, 1);
        CHECK.due("12: RIVER 7, one row", x.comes(0, 1), 1);
        CHECK.due("12: RIVER 7, of two", x.comes(0, 2), 2);
        x.set(0, 2);
        CHECK.due("12: RIVER 2", x.comes(0, 0), CROSSES);
        x.set(0, 1);
        CHECK.due("12: RIVER 1", x.comes(0, 0), IDLE);
        CHECK.due("12: RIVER 1, no row", x.comes(0, 2), 0);
        CHECK.due("12: RIVER 1, the GAP stays", x.gap(1), 1);
        x.set(0, 0);
        CHECK.due("12: RIVER 0", x.comes(0, 0), IDLE);
        MiddlePlank one = Check.bridge(".", "p1w1", "a");
        one.set(0, 9);
        CHECK.due("12: one PLANK is its own next", one.comes(0, 2), 1);
        CHECK.due("12: one PLANK, one row", one.comes(0, 1), 1);
    }

    private static void times() {
        MiddlePlank x = Check.bridge(".....", "p1w1;p1w0", "abaabh");
        CHECK.due("13: times(0, 0)", x.times(0, 0), 3);
        CHECK.due("13: times(0, 1)", x.times(0, 1), 0);
        CHECK.due("13: times(1, 0)", x.times(1, 0), 0);
        CHECK.due("13: times(1, 1)", x.times(1, 1), 2);
        CHECK.due("13: times(2, 0)", x.times(2, 0), BAD);
        CHECK.due("13: no such CROSSER, though it is told of", x.times(7, 0), BAD);
        CHECK.due("13: times(-1, 0)", x.times(-1, 0), BAD);
        CHECK.due("13: what 2", x.times(0, 2), BAD);
        CHECK.due("13: what -1", x.times(0, -1), BAD);
    }

    private static void taken() {
        MiddlePlank x = Check.bridge("r...r", "p6w1;p1w1;b1w9", "abc");
        int[] due = {0, 3, 4, 4};
        x.set(1, 2);
        x.shift(0, 0);
        for (int k = 0; k < due.length; k++) {
            CHECK.due("14: taken(" + k + ")", x.taken(k), due[k]);
        }
        CHECK.due("14: taken(4)", x.taken(4), BAD);
        CHECK.due("14: taken(-1)", x.taken(-1), BAD);
        CHECK.due("34: TOLLS in all", x.count(6), 4);
    }

    private static void stuck() {
        CHECK.due("15: nobody", Check.bridge("...", "p1w1", "aa").stuck(), NONE);
        CHECK.due("15: the first", Check.bridge("...", "p1w1;p1w0", "hababb").stuck(), 2);
        CHECK.due("15: no CROSSINGS", new MiddlePlank().stuck(), NONE);
    }

    private static void worn() {
        CHECK.due("16: no PLANKS", Check.bridge("", "p1w1", "aa").worn(), NONE);
        CHECK.due("16: behind 0 alone", Check.bridge("......", "", "").worn(), 3);
        CHECK.due("16: of like ones the least", Check.bridge("....", "p1e1", "aaa").worn(), 0);
        CHECK.due("16: the most often", Check.bridge("....", "p1w1;p1w0", "abb").worn(), 2);
        CHECK.due("16: IDLE ones count too", Check.bridge("....", "p1w1", "ahh").worn(), 2);
    }

    /** "Behind so many CROSSINGS (0 to all)", where all are as many as there can be. */
    private static void behind24Crossings() {
        MiddlePlank x = Check.bridge("...................", "p1w1", "aaaaaaaaaaaaaaaaaaaaaaaa");
        for (int number = 0; number <= 24; number++) {
            CHECK.due("11: behind " + number + " of 24", x.gap(number), (9 + number) % 19);
            CHECK.due("14: behind " + number + " of 24", x.taken(number), number);
        }
        CHECK.due("11: behind 25 of 24", x.gap(25), BAD);
        CHECK.due("14: behind 25 of 24", x.taken(25), BAD);
        CHECK.due("12: the last of 24", x.comes(23, 0), CROSSES);
        CHECK.due("12: none behind 24", x.comes(24, 0), BAD);
        CHECK.due("13: 24 times", x.times(0, 0), 24);
        CHECK.due("34: TOLLS of 24", x.count(6), 24);
        for (int left = 23; left >= 0; left--) {
            CHECK.due("4: a CROSSING undone", x.undo(2), left);
            CHECK.due("11: behind all that are left", x.gap(left), (9 + left) % 19);
            CHECK.due("11: not behind one more", x.gap(left + 1), BAD);
            CHECK.due("12: not of the one undone", x.comes(left, 0), BAD);
        }
    }

    /** "Of a CROSSER: how many times it CROSSES; TURNS BACK", once so, once so; IDLE is neither. */
    private static void timesByWhereTheGapWas() {
        MiddlePlank x = Check.bridge("..r.....", "g6w1;p1w1;g6e2", "ababacabacha");
        x.set(1, 0);
        int[] comes = {1, 1, 2, 1, 1, 1, 1, 1, 2, 1, 0, 2};
        for (int i = 0; i < comes.length; i++) {
            CHECK.due("12: of " + i, x.comes(i, 0), comes[i]);
        }
        CHECK.due("13: CROSSES", x.times(0, 0), 3);
        CHECK.due("13: TURNS BACK", x.times(0, 1), 3);
        CHECK.due("13: always CROSSES", x.times(1, 0), 3);
        CHECK.due("13: never TURNS BACK", x.times(1, 1), 0);
        CHECK.due("13: another one CROSSES", x.times(2, 0), 2);
        x.set(0, 1);
        CHECK.due("13: IDLE is no CROSSING over", x.times(0, 0), 0);
        CHECK.due("13: IDLE is no TURNING BACK", x.times(0, 1), 0);
        x.wipe(2);
        CHECK.due("13: without CROSSINGS", x.times(0, 0), 0);
    }

    /** "STUCK: the first CROSSING that TURNS BACK; NONE." */
    private static void stuckAtEachPlace() {
        for (int place = 0; place < 24; place++) {
            StringBuilder row = new StringBuilder("aaaaaaaaaaaaaaaaaaaaaaab");
            row.setCharAt(place, 'b');
            CHECK.due("15: the first at " + place, Check.bridge("...", "g1w1;g1w0", row.toString()).stuck(), place);
        }
        MiddlePlank x = Check.bridge("...", "g1w1;g1w0", "b");
        x.set(0, 1);
        CHECK.due("15: IDLE", x.stuck(), NONE);
        x.set(0, 5);
        x.wipe(0);
        CHECK.due("15: no PLANKS", x.stuck(), NONE);
        CHECK.due("15: no such CROSSER", Check.bridge("...", "g1w1", "b").stuck(), NONE);
    }

    /** "behind 0 CROSSINGS to all": the first GAP and the last one count. */
    private static void wornFrom0ToAll() {
        CHECK.due("16: behind 0 counts", Check.bridge("....", "p1w1", "a").worn(), 1);
        CHECK.due("16: behind all counts", Check.bridge("....", "p1e1", "a").worn(), 0);
        CHECK.due("16: behind each", Check.bridge("....", "p1w1;g1w1", "ab").worn(), 2);
        CHECK.due("16: the last PLANK", Check.bridge("...................", "h1w1;p1w1;g1w1", "aaaabg").worn(), 18);
        MiddlePlank first = Check.bridge("..", "g1w1", "aaaaaaaaaaaaaaaaaaaaaaaa");
        first.set(1, 0);
        CHECK.due("16: 25 times the first PLANK", first.worn(), 0);
        CHECK.due("16: no PLANKS, no CROSSINGS", new MiddlePlank().worn(), NONE);
        CHECK.due("16: one PLANK", Check.bridge(".", "", "").worn(), 0);
    }

    /** WORN leaves nothing behind for the next time that it is asked. */
    private static void wornAnew() {
        MiddlePlank x = Check.bridge("....", "p1w1", "");
        x.set(1, 0);
        CHECK.due("16: on 0", x.worn(), 0);
        CHECK.due("16: on 0 again", x.worn(), 0);
        for (int begin = 3; begin >= 0; begin--) {
            x.set(1, begin);
            CHECK.due("16: from " + begin, x.worn(), begin);
        }
    }

    /** Each answer is of what stands then, whatever was asked before. */
    private static void askedBetweenChanges() {
        MiddlePlank x = Check.bridge("......", "p6w1", "a");
        CHECK.due("11: before", x.gap(1), 4);
        x.shift(0, 2);
        CHECK.due("11: behind shift()", x.gap(1), 5);
        x.set(1, 0);
        CHECK.due("11: behind set(1)", x.gap(1), 2);
        x.set(0, 7);
        CHECK.due("12: behind set(0)", x.comes(0, 0), TURNS_BACK);
        x.set(0, 5);
        x.undo(0);
        CHECK.due("11: behind undo(0)", x.gap(1), 2);
        x.type(0, 'r');
        CHECK.due("12: behind type(0)", x.comes(0, 1), 2);
        x.type(1, ';');
        CHECK.due("12: behind type(1)", x.comes(0, 0), IDLE);
        x.undo(1);
        CHECK.due("12: behind undo(1)", x.comes(0, 0), CROSSES);
        x.type(2, 'a');
        CHECK.due("11: behind type(2)", x.gap(2), 4);
        x.wipe(2);
        CHECK.due("11: behind wipe(2)", x.gap(1), BAD);
        x.wipe(0);
        CHECK.due("11: behind wipe(0)", x.gap(0), NONE);
        x.wipe(1);
        CHECK.due("7: behind wipe(1)", x.crosser(0, 0), BAD);
    }
}
