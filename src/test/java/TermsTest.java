/** "Terms" of the document, sentence by sentence; each method bears the sentence that it asks for. */
public final class TermsTest {
    private static final Check CHECK = new Check("TermsTest");
    private static final int NONE = MiddlePlank.NONE, BAD = MiddlePlank.BAD, FULL = MiddlePlank.FULL;
    private static final int IDLE = 0, CROSSES = 1, TURNS_BACK = 2;
    private static final String SOUND = "...................";
    private static final String EIGHT = "p1w1;h2e2;c3w3;g4e4;b5w5;p6e6;h7w7;c8e8";

    public static void main(String[] args) {
        planksAreUpTo19Bytes();
        planksAreSoundOrRotten();
        crossersAreUpTo39BytesAnd8();
        crossersAreKindWeightEndLeap();
        crossersByEachByte();
        noNinthCrosser();
        crossingsAreUpTo24Letters();
        crossingsByEachByte();
        faultIsTheFirst();
        faultAtTheLastPlace();
        faultyPlanksAreNone();
        faultyCrossersAreNone();
        faultyCrossingsAreNone();
        CHECK.end();
    }

    private static MiddlePlank typed(int text, String bytes) {
        MiddlePlank x = new MiddlePlank();
        Check.type(x, text, bytes);
        return x;
    }

    /** "PLANKS are a text of up to 19 bytes (text 0), 0 on, from the west". */
    private static void planksAreUpTo19Bytes() {
        MiddlePlank x = new MiddlePlank();
        for (int n = 0; n < 19; n++) {
            CHECK.due("PLANKS " + n + ": how many", x.count(0), n);
            CHECK.due("PLANKS " + n + ": the next is not there", x.plank(n), NONE);
            CHECK.due("PLANKS " + n + ": well", x.fault(0), NONE);
            CHECK.due("PLANKS " + n + ": type", x.type(0, n % 3 == 0 ? 'r' : '.'), n + 1);
        }
        CHECK.due("PLANKS 19", x.count(0), 19);
        for (int i = 0; i < 19; i++) {
            CHECK.due("PLANK " + i + " of 19", x.plank(i), i % 3 == 0 ? 1 : 0);
        }
        CHECK.due("PLANKS: a 20th byte", x.type(0, '.'), FULL);
        MiddlePlank west = Check.bridge(SOUND, "p1w1", "a");
        west.set(1, 0);
        CHECK.due("PLANKS: from the west on is from 0 to 1", west.gap(1), 1);
    }

    /** ". (sound) or r (rotten)". */
    private static void planksAreSoundOrRotten() {
        for (int b = 0; b <= 255; b++) {
            MiddlePlank x = new MiddlePlank();
            x.type(0, '.');
            CHECK.due("PLANK of byte " + b + ": type", x.type(0, b), 2);
            boolean well = b == '.' || b == 'r';
            CHECK.due("PLANK of byte " + b + ": FAULT", x.fault(0), well ? NONE : 1);
            CHECK.due("PLANK of byte " + b, x.plank(1), b == '.' ? 0 : b == 'r' ? 1 : NONE);
        }
    }

    /**
     * "CROSSERS are a text of up to 39 bytes (text 1), 8 at most (0 on), with ; between them";
     * "of one that is not ended, its end".
     */
    private static void crossersAreUpTo39BytesAnd8() {
        MiddlePlank x = new MiddlePlank();
        for (int n = 0; n <= 39; n++) {
            boolean ended = n == 0 || n % 5 == 4;
            CHECK.due("CROSSERS of " + n + " bytes: FAULT", x.fault(1), ended ? NONE : n);
            CHECK.due("CROSSERS of " + n + " bytes", x.count(1), ended ? (n + 1) / 5 : 0);
            CHECK.due("CROSSERS of " + n + " bytes: bytes", x.count(4), n);
            if (n < 39) {
                CHECK.due("CROSSERS: type", x.type(1, EIGHT.charAt(n)), n + 1);
            }
        }
        CHECK.due("CROSSERS: a 40th byte", x.type(1, ';'), FULL);
        for (int i = 0; i < 8; i++) {
            CHECK.due("CROSSER " + i + " of 8: kind", x.crosser(i, 0), i % 5);
            CHECK.due("CROSSER " + i + " of 8: WEIGHT", x.crosser(i, 1), i + 1);
            CHECK.due("CROSSER " + i + " of 8: END", x.crosser(i, 2), i % 2);
            CHECK.due("CROSSER " + i + " of 8: LEAPS", x.crosser(i, 3), i + 1);
        }
        CHECK.due("CROSSER 8 of 8", x.crosser(8, 0), BAD);
    }

    /** "p .. b, a figure, its WEIGHT (1 to 9), w or e, .. a figure, how many PLANKS it LEAPS at most (0 to 9)". */
    private static void crossersAreKindWeightEndLeap() {
        for (int kind = 0; kind < 5; kind++) {
            for (int weight = 1; weight <= 9; weight++) {
                for (int leap = 0; leap <= 9; leap++) {
                    String start = "phcgb".charAt(kind) + "" + weight;
                    MiddlePlank x = typed(1, start + "w" + leap + ";" + start + "e" + leap);
                    for (int end = 0; end <= 1; end++) {
                        int all = 1000 * x.crosser(end, 0) + 100 * x.crosser(end, 1)
                                + 10 * x.crosser(end, 2) + x.crosser(end, 3);
                        CHECK.due("CROSSER " + start + "we".charAt(end) + leap, all,
                                1000 * kind + 100 * weight + 10 * end + leap);
                    }
                }
            }
        }
    }

    /** "The FAULT of a text is the place of the first byte with which it cannot go on", by all bytes at each place. */
    private static void crossersByEachByte() {
        String[] well = {"phcgb", "123456789", "we", "0123456789", ";"};
        String start = "p1w1;h9e0";
        for (int place = 5; place <= 9; place++) {
            for (int b = 0; b <= 255; b++) {
                MiddlePlank x = typed(1, start.substring(0, place));
                x.type(1, b);
                boolean goesOn = well[place - 5].indexOf((char) b) >= 0;
                int due = !goesOn ? place : place == 8 ? NONE : place + 1;
                CHECK.due("CROSSERS, byte " + b + " at " + place, x.fault(1), due);
                CHECK.due("CROSSERS, byte " + b + " at " + place + ": how many", x.count(1), due == NONE ? 2 : 0);
            }
        }
    }

    /** "here also of the first byte of a ninth": it can't be typed, as eight fill the text. */
    private static void noNinthCrosser() {
        MiddlePlank x = typed(1, EIGHT);
        for (int b = 0; b <= 255; b++) {
            CHECK.due("a ninth: byte " + b, x.type(1, b), FULL);
        }
        CHECK.due("a ninth: no FAULT", x.fault(1), NONE);
        CHECK.due("a ninth: eight stay", x.count(1), 8);
    }

    /** "CROSSINGS are a text of up to 24 letters a to h (text 2), CROSSERS 0 to 7, one behind the other (0 on)". */
    private static void crossingsAreUpTo24Letters() {
        MiddlePlank x = new MiddlePlank();
        for (int n = 0; n < 24; n++) {
            CHECK.due("CROSSINGS " + n, x.count(2), n);
            CHECK.due("CROSSINGS " + n + ": the next is not there", x.crossing(n), NONE);
            CHECK.due("CROSSINGS " + n + ": well", x.fault(2), NONE);
            CHECK.due("CROSSINGS " + n + ": type", x.type(2, 'a' + n * 3 % 8), n + 1);
        }
        for (int i = 0; i < 24; i++) {
            CHECK.due("CROSSING " + i + " of 24", x.crossing(i), i * 3 % 8);
        }
        CHECK.due("CROSSINGS 24", x.count(2), 24);
        CHECK.due("CROSSINGS: a 25th", x.type(2, 'a'), FULL);
    }

    /** "letters a to h (text 2), CROSSERS 0 to 7": any other byte is a FAULT. */
    private static void crossingsByEachByte() {
        for (int b = 0; b <= 255; b++) {
            MiddlePlank x = typed(2, "h");
            CHECK.due("CROSSING of byte " + b + ": type", x.type(2, b), 2);
            boolean well = b >= 'a' && b <= 'h';
            CHECK.due("CROSSING of byte " + b + ": FAULT", x.fault(2), well ? NONE : 1);
            CHECK.due("CROSSING of byte " + b, x.crossing(1), well ? b - 'a' : NONE);
        }
    }

    /** "the first byte with which it cannot go on": later ones, wrong or right, change nothing. */
    private static void faultIsTheFirst() {
        String[] start = {"r.", "p1w1;c", "ab"};
        String[] behind = {"x.rx", "x1w1;p1w1;x", "xabx"};
        for (int text = 0; text < 3; text++) {
            MiddlePlank x = typed(text, start[text]);
            for (char b : behind[text].toCharArray()) {
                x.type(text, b);
                CHECK.due("FAULT of text " + text + ", the first", x.fault(text), start[text].length());
            }
            int bytes = start[text].length() + behind[text].length();
            for (int n = bytes - 1; n > start[text].length(); n--) {
                CHECK.due("FAULT of text " + text + ", undo", x.undo(text), n);
                CHECK.due("FAULT of text " + text + ", still", x.fault(text), start[text].length());
            }
            x.undo(text);
            CHECK.due("FAULT of text " + text + ", undone", x.fault(text), text == 1 ? start[1].length() : NONE);
            CHECK.due("FAULT of text " + text + ", wiped", x.wipe(text), start[text].length());
            CHECK.due("FAULT of text " + text + ", an empty one is well", x.fault(text), NONE);
        }
    }

    /** "The FAULT of a text is the place of the first byte ..": each place of a full text, to the last. */
    private static void faultAtTheLastPlace() {
        String[] full = {SOUND, EIGHT, "abcdefghabcdefghabcdefgh"};
        int[] each = {19, 8, 24};
        for (int text = 0; text < 3; text++) {
            for (int place = 0; place < full[text].length(); place++) {
                MiddlePlank x = typed(text, full[text].substring(0, place) + "x" + full[text].substring(place + 1));
                CHECK.due("FAULT of text " + text + " at " + place, x.fault(text), place);
                CHECK.due("FAULT of text " + text + " at " + place + ": as if empty", x.count(text), 0);
                CHECK.due("FAULT of text " + text + " at " + place + ": bytes", x.count(3 + text), full[text].length());
            }
            CHECK.due("text " + text + " full and well", typed(text, full[text]).count(text), each[text]);
        }
    }

    /** "With a FAULT a text is as if it was empty": no PLANKS. */
    private static void faultyPlanksAreNone() {
        MiddlePlank x = Check.bridge("r..x", "p1w9", "aa");
        x.sheet(0, 2, 3);
        CHECK.due("faulty PLANKS: plank(0)", x.plank(0), NONE);
        CHECK.due("faulty PLANKS: gap(0)", x.gap(0), NONE);
        CHECK.due("faulty PLANKS: gap(2)", x.gap(2), NONE);
        CHECK.due("faulty PLANKS: comes", x.comes(0, 0), IDLE);
        CHECK.due("faulty PLANKS: taken", x.taken(2), 0);
        CHECK.due("faulty PLANKS: worn", x.worn(), NONE);
        CHECK.due("faulty PLANKS: order", x.order(0), 0);
        CHECK.due("faulty PLANKS: ahead", x.ahead(0), NONE);
        CHECK.due("faulty PLANKS: began", x.began(), 0);
        CHECK.due("faulty PLANKS: maybe", x.maybe(0, 0, 0), Long.MIN_VALUE + 2);
        CHECK.due("faulty PLANKS: week", x.week(1, 1, 0), NONE);
        CHECK.due("faulty PLANKS: write", x.write(0), 3);
        CHECK.due("faulty PLANKS: written", x.get(0, 2, 2), NONE);
        x.undo(0);
        CHECK.due("PLANKS again: comes", x.comes(0, 0), CROSSES);
        CHECK.due("PLANKS again: gap(2)", x.gap(2), 2);
    }

    /** "With a FAULT a text is as if it was empty": no CROSSERS. */
    private static void faultyCrossersAreNone() {
        MiddlePlank x = Check.bridge("....", "p1w9;p1w0;", "ab");
        CHECK.due("faulty CROSSERS: crosser", x.crosser(0, 0), BAD);
        CHECK.due("faulty CROSSERS: comes", x.comes(0, 0), IDLE);
        CHECK.due("faulty CROSSERS: longest row", x.comes(0, 2), 0);
        CHECK.due("faulty CROSSERS: gap", x.gap(2), 1);
        CHECK.due("faulty CROSSERS: times", x.times(0, 0), BAD);
        CHECK.due("faulty CROSSERS: stuck", x.stuck(), NONE);
        CHECK.due("faulty CROSSERS: order", x.order(2), NONE);
        CHECK.due("faulty CROSSERS: ahead", x.ahead(0), BAD);
        CHECK.due("faulty CROSSERS: often", x.often(0, 1), BAD);
        CHECK.due("faulty CROSSERS: week", x.week(1, 9, 0), 1);
        CHECK.due("faulty CROSSERS: maybe", x.maybe(7, 1, 0), 1);
        x.undo(1);
        CHECK.due("CROSSERS again: comes", x.comes(0, 0), CROSSES);
        CHECK.due("CROSSERS again: stuck", x.stuck(), 1);
        CHECK.due("CROSSERS again: what comes", x.comes(1, 0), TURNS_BACK);
    }

    /** "With a FAULT a text is as if it was empty": no CROSSINGS. */
    private static void faultyCrossingsAreNone() {
        MiddlePlank x = Check.bridge("....", "p1w9;p1w0", "abababababax");
        CHECK.due("faulty CROSSINGS: crossing", x.crossing(0), NONE);
        CHECK.due("faulty CROSSINGS: gap(0)", x.gap(0), 1);
        CHECK.due("faulty CROSSINGS: gap(1)", x.gap(1), BAD);
        CHECK.due("faulty CROSSINGS: comes", x.comes(0, 0), BAD);
        CHECK.due("faulty CROSSINGS: times", x.times(0, 0), 0);
        CHECK.due("faulty CROSSINGS: taken(0)", x.taken(0), 0);
        CHECK.due("faulty CROSSINGS: taken(1)", x.taken(1), BAD);
        CHECK.due("faulty CROSSINGS: stuck", x.stuck(), NONE);
        CHECK.due("faulty CROSSINGS: worn", x.worn(), 1);
        CHECK.due("faulty CROSSINGS: maybe, as of none", x.maybe(7, 1, 1), 1);
        x.undo(2);
        CHECK.due("CROSSINGS again: gap(11)", x.gap(11), (1 + 6) % 4);
        CHECK.due("CROSSINGS again: maybe of 11", x.maybe(7, 1, 1), Long.MIN_VALUE + 2);
    }
}
