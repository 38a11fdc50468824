/** Promises 1 to 10: a new object, texts, what they say, RIVER, BEGIN, SHIFT. */
public final class TextsTest {
    private static final Check CHECK = new Check("TextsTest");
    private static final int NONE = MiddlePlank.NONE, BAD = MiddlePlank.BAD;
    private static final int NOT = MiddlePlank.NOT, FULL = MiddlePlank.FULL;

    public static void main(String[] args) {
        newObject();
        type();
        wipe();
        undo();
        faultOfPlanks();
        faultOfCrossers();
        faultOfCrossings();
        plank();
        crosser();
        crossing();
        set();
        shift();
        CHECK.end();
    }

    private static void newObject() {
        MiddlePlank x = new MiddlePlank();
        for (int what = 0; what <= 8; what++) {
            CHECK.due("1: count(" + what + ")", x.count(what), 0);
        }
        for (int s = 0; s <= 3; s++) {
            CHECK.due("1: lose(" + s + ")", x.lose(s), -11);
        }
        CHECK.due("1: gap(0)", x.gap(0), NONE);
    }

    private static void type() {
        int[] most = {19, 39, 24};
        for (int text = 0; text <= 2; text++) {
            MiddlePlank x = new MiddlePlank();
            for (int n = 1; n <= most[text]; n++) {
                CHECK.due("2: type(" + text + ", ..)", x.type(text, n % 2 == 0 ? 0 : 255), n);
            }
            CHECK.due("2: type(" + text + ") full", x.type(text, '.'), FULL);
            CHECK.due("2: full changes nothing", x.count(3 + text), most[text]);
            CHECK.due("2: BAD ahead of FULL, below", x.type(text, -1), BAD);
            CHECK.due("2: BAD ahead of FULL, above", x.type(text, 256), BAD);
        }
        MiddlePlank x = new MiddlePlank();
        CHECK.due("2: text -1", x.type(-1, '.'), BAD);
        CHECK.due("2: text 3", x.type(3, '.'), BAD);
        CHECK.due("2: byte far below", x.type(0, Integer.MIN_VALUE), BAD);
        CHECK.due("2: byte far above", x.type(0, Integer.MAX_VALUE), BAD);
        CHECK.due("2: BAD changes nothing", x.count(3), 0);
    }

    private static void wipe() {
        MiddlePlank x = Check.bridge("..r", "p1w1", "aa");
        CHECK.due("3: wipe(2)", x.wipe(2), 2);
        CHECK.due("3: bytes left", x.count(5), 0);
        CHECK.due("3: CROSSINGS left", x.count(2), 0);
        CHECK.due("3: other texts stay", x.count(4), 4);
        CHECK.due("3: wipe(0)", x.wipe(0), 3);
        CHECK.due("3: PLANKS left", x.count(0), 0);
        CHECK.due("3: wipe(1)", x.wipe(1), 4);
        CHECK.due("3: of an empty one", x.wipe(1), 0);
        CHECK.due("3: wipe(-1)", x.wipe(-1), BAD);
        CHECK.due("3: wipe(3)", x.wipe(3), BAD);
    }

    private static void undo() {
        MiddlePlank x = Check.bridge(".r", "", "");
        CHECK.due("4: undo(0)", x.undo(0), 1);
        CHECK.due("4: rotten one gone", x.plank(1), NONE);
        CHECK.due("4: undo(0)", x.undo(0), 0);
        CHECK.due("4: of an empty one", x.undo(0), NOT);
        CHECK.due("4: undo(-1)", x.undo(-1), BAD);
        CHECK.due("4: undo(3)", x.undo(3), BAD);
    }

    private static void fault(int text, String bytes, int want) {
        MiddlePlank x = new MiddlePlank();
        Check.type(x, text, bytes);
        CHECK.due("5: fault of '" + bytes + "'", x.fault(text), want);
    }

    private static void faultOfPlanks() {
        fault(0, "", NONE);
        fault(0, "...................", NONE);
        fault(0, "rrrrrrrrrrrrrrrrrrr", NONE);
        fault(0, "r.R", 2);
        fault(0, "x.x", 0);
        fault(0, ". .", 1);
        MiddlePlank x = Check.bridge("..x", "", "");
        CHECK.due("5: with a FAULT no PLANKS", x.count(0), 0);
        CHECK.due("5: bytes stay", x.count(3), 3);
        x.undo(0);
        CHECK.due("5: PLANKS again", x.count(0), 2);
        CHECK.due("5: fault(-1)", x.fault(-1), BAD);
        CHECK.due("5: fault(3)", x.fault(3), BAD);
    }

    private static void faultOfCrossers() {
        fault(1, "", NONE);
        for (String kind : new String[] {"p", "h", "c", "g", "b"}) {
            fault(1, kind + "1w0", NONE);
            fault(1, kind + "9e9", NONE);
            fault(1, kind, 1);
        }
        fault(1, "x", 0);
        fault(1, ";", 0);
        fault(1, "p0", 1);
        fault(1, "p:", 1);
        fault(1, "p1", 2);
        fault(1, "p1n", 2);
        fault(1, "p1w", 3);
        fault(1, "p1w/", 3);
        fault(1, "p1w:", 3);
        fault(1, "p1w1p", 4);
        fault(1, "p1w1;", 5);
        fault(1, "p1w1;;", 5);
        fault(1, "p1w1;h", 6);
        fault(1, "p1w1;h9e", 8);
        fault(1, "p1w1;h9e0;x", 10);
        fault(1, "p1w1;p1w1;p1w1;p1w1;p1w1;p1w1;p1w1;p1w1", NONE);
        MiddlePlank x = Check.bridge("..", "p1w1;", "");
        CHECK.due("5: with a FAULT no CROSSERS", x.count(1), 0);
    }

    private static void faultOfCrossings() {
        fault(2, "", NONE);
        fault(2, "abcdefghabcdefghabcdefgh", NONE);
        fault(2, "hi", 1);
        fault(2, "`", 0);
        fault(2, "aA", 1);
        MiddlePlank x = Check.bridge("..", "p1w1", "aax");
        CHECK.due("5: with a FAULT no CROSSINGS", x.count(2), 0);
        CHECK.due("5: nor a first one", x.crossing(0), NONE);
    }

    private static void plank() {
        MiddlePlank x = Check.bridge(".r.", "", "");
        CHECK.due("6: plank(0)", x.plank(0), 0);
        CHECK.due("6: plank(1)", x.plank(1), 1);
        CHECK.due("6: plank(2)", x.plank(2), 0);
        CHECK.due("6: plank(3)", x.plank(3), NONE);
        CHECK.due("6: plank(18)", x.plank(18), NONE);
        CHECK.due("6: plank(19)", x.plank(19), BAD);
        CHECK.due("6: plank(-1)", x.plank(-1), BAD);
        x.wipe(0);
        Check.type(x, 0, "r");
        CHECK.due("6: planks anew", x.plank(0), 1);
        CHECK.due("6: planks anew", x.plank(1), NONE);
    }

    private static void crosser() {
        String[] all = {"p1w0", "h2e9", "c3w5", "g6e1", "b9w7"};
        MiddlePlank x = Check.bridge("", String.join(";", all), "");
        for (int i = 0; i < all.length; i++) {
            CHECK.due("7: kind of " + all[i], x.crosser(i, 0), i);
            CHECK.due("7: WEIGHT of " + all[i], x.crosser(i, 1), all[i].charAt(1) - '0');
            CHECK.due("7: END of " + all[i], x.crosser(i, 2), all[i].charAt(2) == 'w' ? 0 : 1);
            CHECK.due("7: LEAPS of " + all[i], x.crosser(i, 3), all[i].charAt(3) - '0');
        }
        CHECK.due("7: what -1", x.crosser(0, -1), BAD);
        CHECK.due("7: what 4", x.crosser(0, 4), BAD);
        CHECK.due("7: crosser -1", x.crosser(-1, 0), BAD);
        CHECK.due("7: crosser 5", x.crosser(5, 0), BAD);
        CHECK.due("7: crosser 8", x.crosser(8, 0), BAD);
    }

    private static void crossing() {
        MiddlePlank x = Check.bridge("", "", "ahc");
        CHECK.due("8: crossing(0)", x.crossing(0), 0);
        CHECK.due("8: crossing(1)", x.crossing(1), 7);
        CHECK.due("8: crossing(2)", x.crossing(2), 2);
        CHECK.due("8: crossing(3)", x.crossing(3), NONE);
        CHECK.due("8: crossing(23)", x.crossing(23), NONE);
        CHECK.due("8: crossing(24)", x.crossing(24), BAD);
        CHECK.due("8: crossing(-1)", x.crossing(-1), BAD);
    }

    private static void set() {
        MiddlePlank x = Check.bridge("...................", "", "");
        CHECK.due("9: RIVER at first", x.set(0, 0), 5);
        CHECK.due("9: RIVER", x.set(0, 9), 0);
        CHECK.due("9: RIVER 10", x.set(0, 10), BAD);
        CHECK.due("9: RIVER -1", x.set(0, -1), BAD);
        CHECK.due("9: RIVER as it was", x.set(0, 3), 9);
        CHECK.due("9: BEGIN at first", x.set(1, 0), 9);
        CHECK.due("9: BEGIN", x.set(1, 18), 0);
        CHECK.due("9: BEGIN 19", x.set(1, 19), BAD);
        CHECK.due("9: BEGIN -1", x.set(1, -1), BAD);
        CHECK.due("9: BEGIN moves the GAP", x.gap(0), 18);
        CHECK.due("9: what 2", x.set(2, 1), BAD);
        CHECK.due("9: what -1", x.set(-1, 1), BAD);
    }

    private static void shift() {
        MiddlePlank x = new MiddlePlank();
        int[] first = {1, 2, -1, 0};
        for (int kind = 0; kind < 4; kind++) {
            CHECK.due("10: SHIFT " + kind + " at first", x.shift(kind, -9), first[kind]);
            CHECK.due("10: SHIFT " + kind, x.shift(kind, 9), -9);
            CHECK.due("10: SHIFT 10", x.shift(kind, 10), -10002);
            CHECK.due("10: SHIFT -10", x.shift(kind, -10), -10002);
            CHECK.due("10: as it was", x.shift(kind, 0), 9);
        }
        CHECK.due("10: kind 4 has none", x.shift(4, 0), -10002);
        CHECK.due("10: kind -1", x.shift(-1, 0), -10002);
    }
}
