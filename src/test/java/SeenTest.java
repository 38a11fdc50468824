/** Promises 20 to 27: SEEN, RULE, BEGAN, ASK, MAYBE, WEEK. */
public final class SeenTest {
    private static final Check CHECK = new Check("SeenTest");
    private static final int NONE = MiddlePlank.NONE, BAD = MiddlePlank.BAD, FULL = MiddlePlank.FULL;
    private static final long BAD_LONG = Long.MIN_VALUE + 2;
    private static final int ALL = (1 << 19) - 1;

    public static void main(String[] args) {
        seen();
        forget();
        read();
        readAsLongAsEachMayBe();
        rule();
        began();
        seenBehindAll24();
        ask();
        maybe();
        maybeAtTheLimit();
        week();
        CHECK.end();
    }

    private static void seen() {
        MiddlePlank x = new MiddlePlank();
        CHECK.due("20: crossings 25", x.seen(25, 0), BAD);
        CHECK.due("20: crossings -1", x.seen(-1, 0), BAD);
        CHECK.due("20: plank 19", x.seen(0, 19), BAD);
        CHECK.due("20: plank -1", x.seen(0, -1), BAD);
        for (int n = 1; n <= 8; n++) {
            CHECK.due("20: seen", x.seen(n == 1 ? 24 : 0, n == 1 ? 18 : 0), n);
        }
        CHECK.due("20: a ninth", x.seen(0, 0), FULL);
        CHECK.due("20: BAD ahead of FULL", x.seen(25, 0), BAD);
        CHECK.due("20: count", x.count(7), 8);
    }

    private static void forget() {
        MiddlePlank x = Check.bridge("....", "", "");
        CHECK.due("21: none", x.forget(), 0);
        x.seen(0, 3);
        x.seen(0, 2);
        CHECK.due("21: contradiction", x.began(), 0);
        CHECK.due("21: two", x.forget(), 2);
        CHECK.due("21: count", x.count(7), 0);
        CHECK.due("21: all again", x.began(), 15);
    }

    private static MiddlePlank sheetOf(int form, int... items) {
        MiddlePlank x = Check.bridge(".....", "p1w9", "aa");
        x.sheet(2, form, items.length);
        for (int i = 0; i < items.length; i++) {
            x.lay(2, form, i, items[i]);
        }
        return x;
    }

    private static void read() {
        for (int form = 0; form <= 2; form++) {
            MiddlePlank x = sheetOf(form, 1, 0, 2, 1, 24);
            CHECK.due("22: two whole ones", x.read(2), 2);
            CHECK.due("22: count", x.count(7), 2);
            CHECK.due("22: what they say", x.began(), 1 << 4);
        }
        MiddlePlank x = sheetOf(2, 1, 0);
        CHECK.due("22: read(-1)", x.read(-1), BAD);
        CHECK.due("22: read(4)", x.read(4), BAD);
        CHECK.due("22: NULL", x.read(0), -11);
        CHECK.due("22: the FINDING", x.count(8), 1);
        CHECK.due("22: no item", sheetOf(0).read(2), 0);
        CHECK.due("22: half a one", sheetOf(0, 1).read(2), 0);
    }

    private static void readAsLongAsEachMayBe() {
        CHECK.due("22: CROSSINGS above", sheetOf(0, 24, 18, 25, 0, 0, 0).read(2), 1);
        CHECK.due("22: PLANK above", sheetOf(1, 0, 0, 0, 0, 0, 19, 0, 0).read(2), 2);
        CHECK.due("22: CROSSINGS below", sheetOf(2, -1, 0, 0, 0).read(2), 0);
        CHECK.due("22: PLANK below", sheetOf(0, 0, 255, 0, 0).read(2), 0);
        MiddlePlank x = sheetOf(0, new int[60]);
        CHECK.due("22: 8 at most", x.read(2), 8);
        CHECK.due("22: 8 are SEEN", x.count(7), 8);
        CHECK.due("22: none more", x.read(2), 0);
        MiddlePlank y = sheetOf(0, 1, 1, 2, 2);
        y.seen(0, 0);
        CHECK.due("22: behind one SEEN ahead", y.read(2), 2);
        CHECK.due("22: that stays SEEN", y.count(7), 3);
        CHECK.due("22: all agree", y.began(), 1);
    }

    private static void rule() {
        MiddlePlank x = Check.bridge("...................", "p1w9;b1w9", "ab");
        for (int kind = 0; kind <= 3; kind++) {
            CHECK.due("23: nothing SEEN", x.rule(kind), ALL);
        }
        x.seen(1, 0);
        CHECK.due("23: bit 0 is -9", x.rule(0), 1);
        x.forget();
        x.seen(1, 18);
        CHECK.due("23: bit 18 is 9", x.rule(0), 1 << 18);
        CHECK.due("23: its own SHIFT told otherwise", x.rule(1), 0);
        x.forget();
        x.seen(1, 10);
        CHECK.due("23: other kinds are free", x.rule(1), ALL);
        CHECK.due("23: SHIFT stays as it was", x.shift(0, 1), 1);
        x.seen(3, 10);
        CHECK.due("23: with fewer CROSSINGS never", x.rule(0), 0);
        CHECK.due("23: kind 4", x.rule(4), BAD);
        CHECK.due("23: kind -1", x.rule(-1), BAD);
        MiddlePlank y = Check.bridge("....", "p1w9", "a");
        y.seen(1, 2);
        CHECK.due("23: modulo PLANKS", y.rule(0), 1 << 2 | 1 << 6 | 1 << 10 | 1 << 14 | 1 << 18);
    }

    private static void began() {
        MiddlePlank x = Check.bridge(".....", "p1w9;b1w9", "ab");
        CHECK.due("24: nothing SEEN", x.began(), 31);
        x.seen(2, 0);
        CHECK.due("24: thrown to 0 from 4, begun at 3", x.began(), 1 << 3);
        x.seen(0, 3);
        CHECK.due("24: agrees", x.began(), 1 << 3);
        x.seen(0, 9);
        CHECK.due("24: no such PLANK", x.began(), 0);
        CHECK.due("24: BEGIN stays", x.set(1, 9), 9);
        CHECK.due("24: no PLANKS", new MiddlePlank().began(), 0);
        MiddlePlank y = Check.bridge("rr...", "p6w2", "a");
        y.seen(1, 3);
        CHECK.due("24: by who TURNS BACK or not", y.began(), 0);
        y.forget();
        y.seen(1, 2);
        CHECK.due("24: who TURNS BACK leaves it", y.began(), 1 << 1 | 1 << 2);
    }

    private static void seenBehindAll24() {
        MiddlePlank x = Check.bridge("...................", "p1w9", "aaaaaaaaaaaaaaaaaaaaaaaa");
        x.seen(24, (9 + 24) % 19);
        CHECK.due("23: behind all 24", x.rule(0), 1 << 10);
        CHECK.due("24: behind all 24", x.began(), 1 << 9);
        x.undo(2);
        CHECK.due("23: behind one more than all", x.rule(0), 0);
        CHECK.due("24: behind one more than all", x.began(), 0);
    }

    private static void ask() {
        MiddlePlank x = Check.bridge("rr...", "p6w2;b1w9", "aba");
        CHECK.due("25: behind 0 no two are on the same one", x.ask(), 0);
        x.seen(1, 2);
        CHECK.due("25: of two", x.ask(), 0);
        x.seen(0, 18);
        CHECK.due("25: of none", x.ask(), 0);
        CHECK.due("25: nothing", new MiddlePlank().ask(), 0);
    }

    private static void fraction(MiddlePlank x, int c, int plank, long above, long below) {
        CHECK.due("26: maybe(" + c + ", " + plank + ", 0)", x.maybe(c, plank, 0), above);
        CHECK.due("26: maybe(" + c + ", " + plank + ", 1)", x.maybe(c, plank, 1), below);
    }

    private static void maybe() {
        MiddlePlank x = Check.bridge("....", "p1w9", "aa");
        fraction(x, 5, 1, 121, 256);
        fraction(x, 5, 2, 55, 128);
        fraction(x, 5, 3, 25, 256);
        fraction(x, 5, 0, 0, 1);
        fraction(x, 0, 1, 1, 1);
        fraction(x, 16, 3, 1, 1);
        fraction(x, 16, 1, 0, 1);
        fraction(x, 8, 2, 1, 2);
        CHECK.due("26: c -1", x.maybe(-1, 0, 0), BAD_LONG);
        CHECK.due("26: c 17", x.maybe(17, 0, 0), BAD_LONG);
        CHECK.due("26: plank -1", x.maybe(1, -1, 0), BAD_LONG);
        CHECK.due("26: plank 4", x.maybe(1, 4, 0), BAD_LONG);
        CHECK.due("26: what 2", x.maybe(1, 0, 2), BAD_LONG);
        CHECK.due("26: what -1", x.maybe(1, 0, -1), BAD_LONG);
        fraction(Check.bridge("....", "", ""), 3, 1, 1, 1);
        fraction(Check.bridge("....", "p1w0", "aaah"), 3, 1, 1, 1);
        CHECK.due("26: no PLANKS", new MiddlePlank().maybe(1, 0, 0), BAD_LONG);
    }

    private static void maybeAtTheLimit() {
        MiddlePlank x = Check.bridge("...................", "p1w9", "aaaaaaaaaa");
        fraction(x, 1, 0, 1, 1L << 40);
        fraction(x, 15, 9, 1, 1L << 40);
        fraction(x, 15, 0, 576650390625L, 1L << 40);
        x.type(2, 'a');
        CHECK.due("26: 11 CROSSINGS", x.maybe(1, 0, 0), BAD_LONG);
        x.type(2, 'x');
        fraction(x, 1, 9, 1, 1);
    }

    private static void week() {
        MiddlePlank x = Check.bridge("...................", "p1w9", "a");
        CHECK.due("27: one comes each time", x.week(0, 3, 0), 13);
        CHECK.due("27: and CROSSES", x.week(0, 3, 1), 3);
        CHECK.due("27: once", x.week(-1, 1, 0), 11);
        CHECK.due("27: 99 times", x.week(Integer.MIN_VALUE, 99, 0), (10 + 99) % 19);
        CHECK.due("27: n 0", x.week(0, 0, 0), BAD);
        CHECK.due("27: n 100", x.week(0, 100, 0), BAD);
        CHECK.due("27: n -1", x.week(0, -1, 0), BAD);
        CHECK.due("27: what 2", x.week(0, 1, 2), BAD);
        CHECK.due("27: what -1", x.week(0, 1, -1), BAD);
        // 7 becomes 3429651764, upper bits 52332; -4 becomes 4175885957, upper bits 63718.
        MiddlePlank y = Check.bridge("...................", "p1w9;p1e9;h1w9;h1e9;g1w9", "");
        CHECK.due("27: LOT 2 of 5", y.week(7, 1, 0), 11);
        CHECK.due("27: LOT 3 of 5", y.week(-4, 1, 0), 7);
        MiddlePlank nobody = Check.bridge("....", "", "a");
        CHECK.due("27: no CROSSERS, where", nobody.week(5, 9, 0), 1);
        CHECK.due("27: no CROSSERS, how many", nobody.week(5, 9, 1), 0);
        CHECK.due("27: no PLANKS, where", new MiddlePlank().week(5, 9, 0), NONE);
        MiddlePlank back = Check.bridge("....", "p1w0", "");
        CHECK.due("27: who TURNS BACK does not count", back.week(5, 9, 1), 0);
    }
}
