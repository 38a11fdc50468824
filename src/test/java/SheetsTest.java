/** Promises 28 to 34: SHEETS, FINDINGS, count. */
public final class SheetsTest {
    private static final Check CHECK = new Check("SheetsTest");
    private static final int NONE = MiddlePlank.NONE, BAD = MiddlePlank.BAD;
    private static final int NULL = -11, INDEX = -12, CAST = -13, STORE = -14, SIZE = -15;
    private static final int LEAST = Integer.MIN_VALUE;

    public static void main(String[] args) {
        sheet();
        lose();
        lay();
        get();
        copy();
        copyRefused();
        write();
        count();
        lostAtFirst();
        sheetOfEachSize();
        sheetAnew();
        loseOfEach();
        layLowestBits();
        layEachItem();
        copyByEachPlace();
        copyOfAnyForm();
        copyOfNone();
        writeByEachSize();
        writeOfEachForm();
        writeThenRead();
        countOfEach();
        CHECK.end();
    }

    private static void found(String call, MiddlePlank x, int got, int want) {
        CHECK.due(call, got, want);
        CHECK.due(call + ", then count(8)", x.count(8), -10 - want);
    }

    private static void sheet() {
        MiddlePlank x = new MiddlePlank();
        for (int form = 0; form <= 2; form++) {
            CHECK.due("28: 60 items", x.sheet(form, form, 60), 60);
            CHECK.due("28: 0 at first", x.get(form, form, 59), 0);
        }
        CHECK.due("28: no items", x.sheet(3, 0, 0), 0);
        CHECK.due("28: not LOST", x.lose(3), 0);
        x.lay(1, 1, 5, 77);
        CHECK.due("28: a new row", x.sheet(1, 1, 9), 9);
        CHECK.due("28: is 0 again", x.get(1, 1, 5), 0);
        CHECK.due("28: of another FORM", x.sheet(1, 2, 9), 9);
        CHECK.due("28: is that", x.get(1, 2, 5), 0);
        CHECK.due("28: SHEET -1", x.sheet(-1, 0, 1), BAD);
        CHECK.due("28: SHEET 4", x.sheet(4, 0, 1), BAD);
        CHECK.due("28: FORM -1", x.sheet(0, -1, 1), BAD);
        CHECK.due("28: FORM 3", x.sheet(0, 3, 1), BAD);
        CHECK.due("28: 61 items", x.sheet(0, 0, 61), BAD);
        CHECK.due("28: BAD ahead of SIZE", x.sheet(4, 0, -1), BAD);
        CHECK.due("28: BAD ahead of SIZE, FORM", x.sheet(0, 3, -1), BAD);
        CHECK.due("28: BAD is no FINDING", x.count(8), 0);
        found("28: SIZE", x, x.sheet(0, 0, -1), SIZE);
        found("28: SIZE, least", x, x.sheet(0, 0, LEAST), SIZE);
        CHECK.due("28: refusals change nothing", x.lose(0), 60);
    }

    private static void lose() {
        MiddlePlank x = new MiddlePlank();
        x.sheet(3, 1, 7);
        CHECK.due("29: lose(3)", x.lose(3), 7);
        found("29: again", x, x.lose(3), NULL);
        CHECK.due("29: lose(-1)", x.lose(-1), BAD);
        CHECK.due("29: lose(4)", x.lose(4), BAD);
        x.sheet(3, 1, 7);
        CHECK.due("29: a new one", x.get(3, 1, 0), 0);
    }

    private static void laid(MiddlePlank x, int form, int v, int want) {
        CHECK.due("30: lay " + v, x.lay(form, form, 1, v), 1);
        CHECK.due("30: lay " + v + " of FORM " + form, x.get(form, form, 1), want);
    }

    private static void lay() {
        MiddlePlank x = new MiddlePlank();
        for (int form = 0; form <= 2; form++) {
            x.sheet(form, form, 2);
        }
        laid(x, 0, 127, 127);
        laid(x, 0, 128, -128);
        laid(x, 0, 0x1234, 0x34);
        laid(x, 1, 32767, 32767);
        laid(x, 1, 32768, -32768);
        laid(x, 1, -32769, 32767);
        laid(x, 2, LEAST, LEAST);
        laid(x, 2, Integer.MAX_VALUE, Integer.MAX_VALUE);
        CHECK.due("30: the other item", x.get(0, 0, 0), 0);
        CHECK.due("30: SHEET -1", x.lay(-1, 0, 0, 5), BAD);
        CHECK.due("30: SHEET 4", x.lay(4, 0, 0, 5), BAD);
        CHECK.due("30: FORM -1, of a LOST one", x.lay(3, -1, 0, 5), BAD);
        CHECK.due("30: FORM 3", x.lay(0, 3, 0, 5), BAD);
        found("30: NULL", x, x.lay(3, 0, 0, 5), NULL);
        found("30: CAST ahead of INDEX", x, x.lay(0, 1, 2, 5), CAST);
        found("30: INDEX above", x, x.lay(0, 0, 2, 5), INDEX);
        found("30: INDEX below", x, x.lay(0, 0, -1, 5), INDEX);
        found("30: INDEX far above", x, x.lay(0, 0, Integer.MAX_VALUE, 5), INDEX);
        CHECK.due("30: nothing changed", x.get(0, 0, 0), 0);
        CHECK.due("30: nothing changed", x.get(0, 0, 1), 0x34);
    }

    private static void getRefused(String call, MiddlePlank x, int got, int number) {
        CHECK.due(call, got, LEAST);
        CHECK.due(call + ", then count(8)", x.count(8), number);
    }

    private static void get() {
        MiddlePlank x = new MiddlePlank();
        x.sheet(0, 1, 3);
        x.lay(0, 1, 2, -4);
        CHECK.due("31: get", x.get(0, 1, 2), -4);
        getRefused("31: SHEET -1", x, x.get(-1, 1, 0), 0);
        getRefused("31: SHEET 4", x, x.get(4, 1, 0), 0);
        getRefused("31: FORM -1", x, x.get(0, -1, 0), 0);
        getRefused("31: FORM 3 of a LOST one", x, x.get(1, 3, 0), 0);
        getRefused("31: NULL", x, x.get(1, 1, 0), 1);
        getRefused("31: INDEX above", x, x.get(0, 1, 3), 2);
        getRefused("31: CAST ahead of INDEX", x, x.get(0, 2, 3), 3);
        getRefused("31: INDEX below", x, x.get(0, 1, -1), 2);
        getRefused("31: INDEX least", x, x.get(0, 1, LEAST), 2);
        CHECK.due("31: still there", x.get(0, 1, 2), -4);
        CHECK.due("31: a FINDING stays the latest", x.count(8), 2);
    }

    private static MiddlePlank twoSheets() {
        MiddlePlank x = new MiddlePlank();
        x.sheet(0, 2, 5);
        x.sheet(1, 2, 4);
        x.sheet(2, 1, 5);
        for (int i = 0; i < 5; i++) {
            x.lay(0, 2, i, 10 + i);
        }
        return x;
    }

    private static void items(String call, MiddlePlank x, int s, int... due) {
        for (int i = 0; i < due.length; i++) {
            CHECK.due(call + ", item " + i, x.get(s, 2, i), due[i]);
        }
    }

    private static void copy() {
        MiddlePlank x = twoSheets();
        CHECK.due("32: copy", x.copy(0, 2, 1, 1, 3), 1);
        items("32: copy", x, 1, 0, 12, 13, 14);
        items("32: s stays", x, 0, 10, 11, 12, 13, 14);
        CHECK.due("32: up, as they were", x.copy(0, 0, 0, 1, 4), 1);
        items("32: up", x, 0, 10, 10, 11, 12, 13);
        CHECK.due("32: down, as they were", x.copy(0, 1, 0, 0, 4), 1);
        items("32: down", x, 0, 10, 11, 12, 13, 13);
        CHECK.due("32: none, at the ends", x.copy(0, 5, 1, 4, 0), 1);
        items("32: none", x, 1, 0, 12, 13, 14);
    }

    private static void copyRefused() {
        MiddlePlank x = twoSheets();
        CHECK.due("32: s -1", x.copy(-1, 0, 0, 0, 1), BAD);
        CHECK.due("32: s 4", x.copy(4, 0, 0, 0, 1), BAD);
        CHECK.due("32: t -1, s LOST", x.copy(3, 0, -1, 0, 1), BAD);
        CHECK.due("32: t 4", x.copy(0, 0, 4, 0, 1), BAD);
        found("32: s NULL", x, x.copy(3, 0, 0, 0, 1), NULL);
        found("32: STORE ahead of INDEX", x, x.copy(0, 0, 2, 0, -1), STORE);
        found("32: t NULL ahead of INDEX", x, x.copy(0, -1, 3, 0, 1), NULL);
        found("32: i below", x, x.copy(0, -1, 1, 0, 1), INDEX);
        found("32: STORE", x, x.copy(2, 0, 0, 0, 1), STORE);
        found("32: j below", x, x.copy(0, 0, 1, -1, 1), INDEX);
        x.lose(3);
        found("32: n below", x, x.copy(0, 0, 1, 0, -1), INDEX);
        x.lose(3);
        found("32: not so many of s", x, x.copy(1, 1, 0, 0, 4), INDEX);
        x.lose(3);
        found("32: not so many of t", x, x.copy(0, 0, 1, 0, 5), INDEX);
        x.lose(3);
        found("32: i behind the end", x, x.copy(0, 6, 1, 0, 0), INDEX);
        x.lose(3);
        found("32: sums that wrap", x, x.copy(0, Integer.MAX_VALUE, 1, 0, Integer.MAX_VALUE), INDEX);
        x.lose(3);
        found("32: all least", x, x.copy(0, LEAST, 1, LEAST, LEAST), INDEX);
        items("32: refusals change nothing", x, 1, 0, 0, 0, 0);
        items("32: refusals change nothing", x, 0, 10, 11, 12, 13, 14);
    }

    private static void write() {
        MiddlePlank x = Check.bridge("....", "p1w9", "aaa");
        x.sheet(0, 2, 6);
        x.lay(0, 2, 4, 99);
        CHECK.due("33: numbers of CROSSINGS", x.write(0), 4);
        items("33: write", x, 0, 1, 2, 3, 0, 99, 0);
        x.sheet(0, 2, 2);
        CHECK.due("33: items", x.write(0), 2);
        items("33: write", x, 0, 1, 2);
        x.sheet(0, 2, 0);
        CHECK.due("33: no items", x.write(0), 0);
        x.sheet(0, 0, 3);
        x.wipe(0);
        CHECK.due("33: no PLANKS", x.write(0), 3);
        CHECK.due("33: NONE", x.get(0, 0, 2), NONE);
        CHECK.due("33: write(-1)", x.write(-1), BAD);
        CHECK.due("33: write(4)", x.write(4), BAD);
        found("33: NULL", x, x.write(1), NULL);
    }

    private static void count() {
        MiddlePlank x = Check.bridge("..r", "p1w1;p6w9", "abbh");
        x.seen(0, 0);
        x.seen(1, 0);
        int[] due = {3, 2, 4, 3, 9, 4, 3, 2, 0};
        for (int what = 0; what < due.length; what++) {
            CHECK.due("34: count(" + what + ")", x.count(what), due[what]);
        }
        CHECK.due("34: count(-1)", x.count(-1), BAD);
        CHECK.due("34: count(9)", x.count(9), BAD);
        Check.type(x, 0, "x");
        Check.type(x, 1, ";");
        Check.type(x, 2, "i");
        int[] faulty = {0, 0, 0, 4, 10, 5, 0, 2, 0};
        for (int what = 0; what < faulty.length; what++) {
            CHECK.due("34: with FAULTS count(" + what + ")", x.count(what), faulty[what]);
        }
    }

    /** "SHEETS 0 .. 3 are LOST (at first)". */
    private static void lostAtFirst() {
        for (int s = 0; s <= 3; s++) {
            MiddlePlank x = new MiddlePlank();
            CHECK.due("1: no FINDING yet", x.count(8), 0);
            found("1: lose(" + s + ")", x, x.lose(s), NULL);
            found("1: lay(" + s + ")", x, x.lay(s, 0, 0, 1), NULL);
            found("1: read(" + s + ")", x, x.read(s), NULL);
            found("1: write(" + s + ")", x, x.write(s), NULL);
            found("1: copy(" + s + ")", x, x.copy(s, 0, s, 0, 0), NULL);
            CHECK.due("28: sheet(" + s + ")", x.sheet(s, 0, 1), 1);
            CHECK.due("29: others are LOST still", x.lose((s + 1) % 4), NULL);
        }
    }

    /** "a row of a FORM: 0 bytes, 1 shorts, 2 ints, of 0 to 60 items (0 at first)". */
    private static void sheetOfEachSize() {
        for (int form = 0; form <= 2; form++) {
            MiddlePlank x = new MiddlePlank();
            for (int n = 0; n <= 60; n++) {
                CHECK.due("28: sheet of " + n, x.sheet(n % 4, form, n), n);
                CHECK.due("31: the last of " + n, x.get(n % 4, form, n - 1), n == 0 ? LEAST : 0);
                found("30: behind the last of " + n, x, x.lay(n % 4, form, n, 1), INDEX);
                CHECK.due("29: lose " + n, x.lose(n % 4), n);
            }
            CHECK.due("28: sheet of 61", x.sheet(0, form, 61), BAD);
            found("28: sheet of -1", x, x.sheet(0, form, -1), SIZE);
            CHECK.due("28: still LOST", x.lose(0), NULL);
        }
    }

    /** "A SHEET is a new row": nothing of the one before is left, whether that was LOST or not. */
    private static void sheetAnew() {
        MiddlePlank x = new MiddlePlank();
        for (int form = 0; form <= 2; form++) {
            x.sheet(0, form, 60);
            for (int i = 0; i < 60; i++) {
                x.lay(0, form, i, i + 1);
            }
            if (form == 1) {
                x.lose(0);
            }
        }
        x.sheet(0, 2, 60);
        for (int i = 0; i < 60; i++) {
            CHECK.due("28: item " + i + " anew", x.get(0, 2, i), 0);
        }
        found("28: the FORM before", x, x.lay(0, 1, 0, 1), CAST);
        x.sheet(0, 2, 3);
        found("28: fewer items", x, x.lay(0, 2, 3, 1), INDEX);
    }

    private static void loseOfEach() {
        MiddlePlank x = new MiddlePlank();
        for (int s = 0; s <= 3; s++) {
            x.sheet(s, s % 3, 10 + s);
        }
        for (int s = 3; s >= 0; s--) {
            CHECK.due("29: lose(" + s + ")", x.lose(s), 10 + s);
            found("29: is LOST", x, x.lay(s, s % 3, 0, 1), NULL);
            for (int other = 0; other < s; other++) {
                CHECK.due("29: others stay", x.get(other, other % 3, 9), 0);
            }
        }
    }

    /** "becomes v (the lowest bits that it has)". */
    private static void layLowestBits() {
        MiddlePlank x = new MiddlePlank();
        for (int form = 0; form <= 2; form++) {
            x.sheet(form, form, 2);
        }
        int[] laid = {-1, -128, -129, 127, 128, 255, 256, 32767, 32768, -32768, -32769, 65535, 65536, LEAST, LEAST - 1};
        int[] bytes = {-1, -128, 127, 127, -128, -1, 0, -1, 0, 0, -1, -1, 0, 0, -1};
        int[] shorts = {-1, -128, -129, 127, 128, 255, 256, 32767, -32768, -32768, 32767, -1, 0, 0, -1};
        for (int k = 0; k < laid.length; k++) {
            laid(x, 0, laid[k], bytes[k]);
            laid(x, 1, laid[k], shorts[k]);
            laid(x, 2, laid[k], laid[k]);
        }
    }

    private static void layEachItem() {
        MiddlePlank x = new MiddlePlank();
        x.sheet(1, 0, 60);
        for (int i = 0; i < 60; i++) {
            CHECK.due("30: lay at " + i, x.lay(1, 0, i, 2 * i), 1);
        }
        for (int i = 0; i < 60; i++) {
            CHECK.due("31: get at " + i, x.get(1, 0, i), 2 * i);
        }
    }

    /** "n items of SHEET s, from i on, come to SHEET t (perhaps s, as they were), from j on": by all of four. */
    private static void copyByEachPlace() {
        for (int t = 0; t <= 1; t++) {
            for (int i = 0; i <= 5; i++) {
                for (int j = 0; j <= 5; j++) {
                    for (int n = 0; n <= 5; n++) {
                        copied(t, i, j, n);
                    }
                }
            }
        }
    }

    private static void copied(int t, int i, int j, int n) {
        MiddlePlank x = new MiddlePlank();
        int[] due = new int[4];
        for (int s = 0; s <= 1; s++) {
            x.sheet(s, 2, 4);
            for (int k = 0; k < 4; k++) {
                x.lay(s, 2, k, 10 * s + k + 1);
                due[k] = 10 * t + k + 1;
            }
        }
        boolean well = i + n <= 4 && j + n <= 4;
        for (int k = 0; k < n && well; k++) {
            due[j + k] = i + k + 1;
        }
        String call = "32: copy(0, " + i + ", " + t + ", " + j + ", " + n + ")";
        CHECK.due(call, x.copy(0, i, t, j, n), well ? 1 : INDEX);
        items(call, x, t, due);
        if (t == 1) {
            items(call + ", s", x, 0, 1, 2, 3, 4);
        }
    }

    private static void copyOfAnyForm() {
        for (int form = 0; form <= 2; form++) {
            MiddlePlank x = new MiddlePlank();
            x.sheet(2, form, 60);
            x.sheet(3, form, 60);
            for (int i = 0; i < 60; i++) {
                x.lay(2, form, i, -i);
            }
            CHECK.due("32: all 60", x.copy(2, 0, 3, 0, 60), 1);
            CHECK.due("32: up by one", x.copy(2, 0, 2, 1, 59), 1);
            CHECK.due("32: one too many", x.copy(2, 0, 3, 0, 61), INDEX);
            for (int i = 0; i < 60; i++) {
                CHECK.due("32: of 60, item " + i, x.get(3, form, i), -i);
                CHECK.due("32: up by one, item " + i, x.get(2, form, i), -Math.max(i - 1, 0));
            }
        }
    }

    private static void copyOfNone() {
        MiddlePlank x = twoSheets();
        x.sheet(3, 2, 0);
        CHECK.due("32: none from a SHEET of none", x.copy(3, 0, 0, 5, 0), 1);
        CHECK.due("32: none to a SHEET of none", x.copy(0, 5, 3, 0, 0), 1);
        CHECK.due("32: none by itself", x.copy(3, 0, 3, 0, 0), 1);
        CHECK.due("32: these are no FINDINGS", x.count(8), 0);
        found("32: one from a SHEET of none", x, x.copy(3, 0, 0, 0, 1), INDEX);
        found("32: none of another FORM", x, x.copy(3, 0, 2, 0, 0), STORE);
        found("32: none from behind the end", x, x.copy(3, 1, 0, 0, 0), INDEX);
        x.lose(1);
        x.lose(1);
        found("32: none to behind the end", x, x.copy(0, 0, 3, 1, 0), INDEX);
    }

    /** "from item 0 on, as many as there are items and numbers of CROSSINGS: how many". */
    private static void writeByEachSize() {
        String row = "aaaaaaaaaaaaaaaaaaaaaaaa";
        for (int all : new int[] {0, 1, 10, 23, 24}) {
            MiddlePlank x = Check.bridge("...................", "p1w1", row.substring(0, all));
            for (int n : new int[] {0, 1, 2, 24, 25, 26, 60}) {
                x.sheet(3, 2, n);
                int written = Math.min(n, all + 1);
                CHECK.due("33: " + all + " CROSSINGS to " + n + " items", x.write(3), written);
                for (int i = 0; i < n; i += 1 + i / 3) {
                    CHECK.due("33: item " + i, x.get(3, 2, i), i < written ? (9 + i) % 19 : 0);
                }
            }
        }
    }

    private static void writeOfEachForm() {
        for (int form = 0; form <= 2; form++) {
            MiddlePlank x = Check.bridge("....", "p1w1", "aa");
            x.sheet(form, form, 5);
            for (int i = 0; i < 5; i++) {
                x.lay(form, form, i, 70 + i);
            }
            CHECK.due("33: write", x.write(form), 3);
            int[] due = {1, 2, 3, 73, 74};
            for (int i = 0; i < 5; i++) {
                CHECK.due("33: FORM " + form + ", item " + i, x.get(form, form, i), due[i]);
            }
            x.wipe(0);
            CHECK.due("33: write NONE", x.write(form), 3);
            for (int i = 0; i < 5; i++) {
                CHECK.due("33: NONE of FORM " + form + ", item " + i, x.get(form, form, i), i < 3 ? NONE : 70 + i);
            }
        }
    }

    /** What is written stays as it was, though the bridge changes. */
    private static void writeThenRead() {
        MiddlePlank x = Check.bridge("....", "h1w1", "aaa");
        x.sheet(0, 1, 4);
        x.write(0);
        x.wipe(2);
        items1("33: written", x, 1, 3, 1, 3);
        CHECK.due("22: read as two SEEN", x.read(0), 2);
        Check.type(x, 2, "a");
        CHECK.due("24: behind 1 on 3, twice", x.began(), 1 << 1);
    }

    private static void items1(String call, MiddlePlank x, int... due) {
        for (int i = 0; i < due.length; i++) {
            CHECK.due(call + ", item " + i, x.get(0, 1, i), due[i]);
        }
    }

    /** "0 PLANKS, 1 CROSSERS, 2 CROSSINGS, 3 to 5 bytes of texts, 6 TOLLS in all, 7 SEEN", at most. */
    private static void countOfEach() {
        MiddlePlank x = Check.bridge("r.r.r.r.r.r.r.r.r..", "g6w1;g6w1;g6w1;g6w1;g6w1;g6w1;g6w1;g6w1",
                "abcdefghabcdefghabcdefgh");
        x.set(1, 18);
        for (int n = 0; n < 8; n++) {
            x.seen(0, 0);
        }
        int[] due = {19, 8, 24, 19, 39, 24, 240, 8, 0};
        for (int what = 0; what < due.length; what++) {
            CHECK.due("34: at most, count(" + what + ")", x.count(what), due[what]);
        }
    }
}
