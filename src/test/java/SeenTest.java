import java.math.BigInteger;

/** Promises 20 to 27: SEEN, RULE, BEGAN, ASK, MAYBE, WEEK. */
public final class SeenTest {
    private static final Check CHECK = new Check("SeenTest");
    private static final int NONE = MiddlePlank.NONE, BAD = MiddlePlank.BAD, FULL = MiddlePlank.FULL;
    private static final long BAD_LONG = Long.MIN_VALUE + 2;
    private static final int ALL = (1 << 19) - 1;

    public static void main(String[] args) {
        seen();
        forget();
        read();
        readAsLongAsEachMayBe();
        rule();
        began();
        seenBehindAll24();
        ask();
        maybe();
        maybeAtTheLimit();
        week();
        seenByEachNumber();
        seenTwice();
        seenStays();
        seenBehindMoreIsNever();
        seenWithNoPlanks();
        readAfterSeen();
        readWithoutFull();
        ruleByEachShift();
        ruleFromTheEast();
        ruleByWhoTurnsBack();
        beganByEachPlank();
        askIsOfBegan();
        maybeByEachSixteenth();
        maybeIsOneInAll();
        maybeByItself();
        maybeOfUpTo10();
        weekByEachLot();
        weekByLotsInARow();
        weekOfUpTo99();
        weekWithoutSomething();
        CHECK.end();
    }

    private static void seen() {
        MiddlePlank x = new MiddlePlank();
        CHECK.due("20: crossings 25", x.seen(25, 0), BAD);
        CHECK.due("20: crossings -1", x.seen(-1, 0), BAD);
        CHECK.due("20: plank 19", x.seen(0, 19), BAD);
        CHECK.due("20: plank -1", x.seen(0, -1), BAD);
        for (int n = 1; n <= 8; n++) {
            CHECK.due("20: seen", x.seen(n == 1 ? 24 : 0, n == 1 ? 18 : 0), n);
        }
        CHECK.due("20: a ninth", x.seen(0, 0), FULL);
        CHECK.due("20: BAD ahead of FULL", x.seen(25, 0), BAD);
        CHECK.due("20: count", x.count(7), 8);
    }

    private static void forget() {
        MiddlePlank x = Check.bridge("....", "", "");
        CHECK.due("21: none", x.forget(), 0);
        x.seen(0, 3);
        x.seen(0, 2);
        CHECK.due("21: contradiction", x.began(), 0);
        CHECK.due("21: two", x.forget(), 2);
        CHECK.due("21: count", x.count(7), 0);
        CHECK.due("21: all again", x.began(), 15);
    }

    private static MiddlePlank sheetOf(int form, int... items) {
        MiddlePlank x = Check.bridge(".....", "p1w9", "aa");
        x.sheet(2, form, items.length);
        for (int i = 0; i < items.length; i++) {
            x.lay(2, form, i, items[i]);
        }
        return x;
    }

    private static void read() {
        for (int form = 0; form <= 2; form++) {
            MiddlePlank x = sheetOf(form, 1, 0, 2, 1, 24);
            CHECK.due("22: two whole ones", x.read(2), 2);
            CHECK.due("22: count", x.count(7), 2);
            CHECK.due("22: what they say", x.began(), 1 << 4);
        }
        MiddlePlank x = sheetOf(2, 1, 0);
        CHECK.due("22: read(-1)", x.read(-1), BAD);
        CHECK.due("22: read(4)", x.read(4), BAD);
        CHECK.due("22: NULL", x.read(0), -11);
        CHECK.due("22: the FINDING", x.count(8), 1);
        CHECK.due("22: no item", sheetOf(0).read(2), 0);
        CHECK.due("22: half a one", sheetOf(0, 1).read(2), 0);
    }

    private static void readAsLongAsEachMayBe() {
        CHECK.due("22: CROSSINGS above", sheetOf(0, 24, 18, 25, 0, 0, 0).read(2), 1);
        CHECK.due("22: PLANK above", sheetOf(1, 0, 0, 0, 0, 0, 19, 0, 0).read(2), 2);
        CHECK.due("22: CROSSINGS below", sheetOf(2, -1, 0, 0, 0).read(2), 0);
        CHECK.due("22: PLANK below", sheetOf(0, 0, 255, 0, 0).read(2), 0);
        MiddlePlank x = sheetOf(0, new int[60]);
        CHECK.due("22: 8 at most", x.read(2), 8);
        CHECK.due("22: 8 are SEEN", x.count(7), 8);
        CHECK.due("22: none more", x.read(2), 0);
        MiddlePlank y = sheetOf(0, 1, 1, 2, 2);
        y.seen(0, 0);
        CHECK.due("22: behind one SEEN ahead", y.read(2), 2);
        CHECK.due("22: that stays SEEN", y.count(7), 3);
        CHECK.due("22: all agree", y.began(), 1);
    }

    private static void rule() {
        MiddlePlank x = Check.bridge("...................", "p1w9;b1w9", "ab");
        for (int kind = 0; kind <= 3; kind++) {
            CHECK.due("23: nothing SEEN", x.rule(kind), ALL);
        }
        x.seen(1, 0);
        CHECK.due("23: bit 0 is -9", x.rule(0), 1);
        x.forget();
        x.seen(1, 18);
        CHECK.due("23: bit 18 is 9", x.rule(0), 1 << 18);
        CHECK.due("23: its own SHIFT told otherwise", x.rule(1), 0);
        x.forget();
        x.seen(1, 10);
        CHECK.due("23: other kinds are free", x.rule(1), ALL);
        CHECK.due("23: SHIFT stays as it was", x.shift(0, 1), 1);
        x.seen(3, 10);
        CHECK.due("23: with fewer CROSSINGS never", x.rule(0), 0);
        CHECK.due("23: kind 4", x.rule(4), BAD);
        CHECK.due("23: kind -1", x.rule(-1), BAD);
        MiddlePlank y = Check.bridge("....", "p1w9", "a");
        y.seen(1, 2);
        CHECK.due("23: modulo PLANKS", y.rule(0), 1 << 2 | 1 << 6 | 1 << 10 | 1 << 14 | 1 << 18);
    }

    private static void began() {
        MiddlePlank x = Check.bridge(".....", "p1w9;b1w9", "ab");
        CHECK.due("24: nothing SEEN", x.began(), 31);
        x.seen(2, 0);
        CHECK.due("24: thrown to 0 from 4, begun at 3", x.began(), 1 << 3);
        x.seen(0, 3);
        CHECK.due("24: agrees", x.began(), 1 << 3);
        x.seen(0, 9);
        CHECK.due("24: no such PLANK", x.began(), 0);
        CHECK.due("24: BEGIN stays", x.set(1, 9), 9);
        CHECK.due("24: no PLANKS", new MiddlePlank().began(), 0);
        MiddlePlank y = Check.bridge("rr...", "p6w2", "a");
        y.seen(1, 3);
        CHECK.due("24: by who TURNS BACK or not", y.began(), 0);
        y.forget();
        y.seen(1, 2);
        CHECK.due("24: who TURNS BACK leaves it", y.began(), 1 << 1 | 1 << 2);
    }

    private static void seenBehindAll24() {
        MiddlePlank x = Check.bridge("...................", "p1w9", "aaaaaaaaaaaaaaaaaaaaaaaa");
        x.seen(24, (9 + 24) % 19);
        CHECK.due("23: behind all 24", x.rule(0), 1 << 10);
        CHECK.due("24: behind all 24", x.began(), 1 << 9);
        x.undo(2);
        CHECK.due("23: behind one more than all", x.rule(0), 0);
        CHECK.due("24: behind one more than all", x.began(), 0);
    }

    private static void ask() {
        MiddlePlank x = Check.bridge("rr...", "p6w2;b1w9", "aba");
        CHECK.due("25: behind 0 no two are on the same one", x.ask(), 0);
        x.seen(1, 2);
        CHECK.due("25: of two", x.ask(), 0);
        x.seen(0, 18);
        CHECK.due("25: of none", x.ask(), 0);
        CHECK.due("25: nothing", new MiddlePlank().ask(), 0);
    }

    private static void fraction(MiddlePlank x, int c, int plank, long above, long below) {
        CHECK.due("26: maybe(" + c + ", " + plank + ", 0)", x.maybe(c, plank, 0), above);
        CHECK.due("26: maybe(" + c + ", " + plank + ", 1)", x.maybe(c, plank, 1), below);
    }

    private static void maybe() {
        MiddlePlank x = Check.bridge("....", "p1w9", "aa");
        fraction(x, 5, 1, 121, 256);
        fraction(x, 5, 2, 55, 128);
        fraction(x, 5, 3, 25, 256);
        fraction(x, 5, 0, 0, 1);
        fraction(x, 0, 1, 1, 1);
        fraction(x, 16, 3, 1, 1);
        fraction(x, 16, 1, 0, 1);
        fraction(x, 8, 2, 1, 2);
        CHECK.due("26: c -1", x.maybe(-1, 0, 0), BAD_LONG);
        CHECK.due("26: c 17", x.maybe(17, 0, 0), BAD_LONG);
        CHECK.due("26: plank -1", x.maybe(1, -1, 0), BAD_LONG);
        CHECK.due("26: plank 4", x.maybe(1, 4, 0), BAD_LONG);
        CHECK.due("26: what 2", x.maybe(1, 0, 2), BAD_LONG);
        CHECK.due("26: what -1", x.maybe(1, 0, -1), BAD_LONG);
        fraction(Check.bridge("....", "", ""), 3, 1, 1, 1);
        fraction(Check.bridge("....", "p1w0", "aaah"), 3, 1, 1, 1);
        CHECK.due("26: no PLANKS", new MiddlePlank().maybe(1, 0, 0), BAD_LONG);
    }

    private static void maybeAtTheLimit() {
        MiddlePlank x = Check.bridge("...................", "p1w9", "aaaaaaaaaa");
        fraction(x, 1, 0, 1, 1L << 40);
        fraction(x, 15, 9, 1, 1L << 40);
        fraction(x, 15, 0, 576650390625L, 1L << 40);
        x.type(2, 'a');
        CHECK.due("26: 11 CROSSINGS", x.maybe(1, 0, 0), BAD_LONG);
        x.type(2, 'x');
        fraction(x, 1, 9, 1, 1);
    }

    private static void week() {
        MiddlePlank x = Check.bridge("...................", "p1w9", "a");
        CHECK.due("27: one comes each time", x.week(0, 3, 0), 13);
        CHECK.due("27: and CROSSES", x.week(0, 3, 1), 3);
        CHECK.due("27: once", x.week(-1, 1, 0), 11);
        CHECK.due("27: 99 times", x.week(Integer.MIN_VALUE, 99, 0), (10 + 99) % 19);
        CHECK.due("27: n 0", x.week(0, 0, 0), BAD);
        CHECK.due("27: n 100", x.week(0, 100, 0), BAD);
        CHECK.due("27: n -1", x.week(0, -1, 0), BAD);
        CHECK.due("27: what 2", x.week(0, 1, 2), BAD);
        CHECK.due("27: what -1", x.week(0, 1, -1), BAD);
        // 7 becomes 3429651764, upper bits 52332; -4 becomes 4175885957, upper bits 63718.
        MiddlePlank y = Check.bridge("...................", "p1w9;p1e9;h1w9;h1e9;g1w9", "");
        CHECK.due("27: LOT 2 of 5", y.week(7, 1, 0), 11);
        CHECK.due("27: LOT 3 of 5", y.week(-4, 1, 0), 7);
        MiddlePlank nobody = Check.bridge("....", "", "a");
        CHECK.due("27: no CROSSERS, where", nobody.week(5, 9, 0), 1);
        CHECK.due("27: no CROSSERS, how many", nobody.week(5, 9, 1), 0);
        CHECK.due("27: no PLANKS, where", new MiddlePlank().week(5, 9, 0), NONE);
        MiddlePlank back = Check.bridge("....", "p1w0", "");
        CHECK.due("27: who TURNS BACK does not count", back.week(5, 9, 1), 0);
    }

    /** "SEEN, 8 at most: behind so many CROSSINGS (0 to 24) the GAP was on a PLANK (0 to 18..)". */
    private static void seenByEachNumber() {
        for (int number = 0; number <= 24; number++) {
            MiddlePlank x = new MiddlePlank();
            for (int plank = 0; plank <= 18; plank++) {
                CHECK.due("20: seen(" + number + ", " + plank + ")", x.seen(number, plank), 1);
                CHECK.due("21: forget()", x.forget(), 1);
            }
        }
    }

    private static void seenTwice() {
        MiddlePlank x = Check.bridge("....", "", "");
        for (int n = 1; n <= 8; n++) {
            CHECK.due("20: the same again", x.seen(0, 2), n);
            CHECK.due("24: as if once", x.began(), 1 << 2);
        }
        CHECK.due("20: a ninth", x.seen(0, 3), FULL);
        CHECK.due("24: not by the ninth", x.began(), 1 << 2);
        CHECK.due("21: eight", x.forget(), 8);
        CHECK.due("20: anew", x.seen(0, 3), 1);
        CHECK.due("24: anew", x.began(), 1 << 3);
    }

    /** SEEN is no text: it stays, whatever becomes of these. */
    private static void seenStays() {
        MiddlePlank x = Check.bridge("....", "p1w9", "a");
        x.seen(1, 3);
        x.wipe(0);
        x.wipe(1);
        x.wipe(2);
        x.set(1, 0);
        CHECK.due("20: still SEEN", x.count(7), 1);
        Check.type(x, 0, ".....");
        Check.type(x, 1, "h1w9");
        Check.type(x, 2, "a");
        CHECK.due("24: of other texts", x.began(), 1 << 1);
        x.digest();
        CHECK.due("20: still one", x.count(7), 1);
    }

    /** "with fewer CROSSINGS: never". */
    private static void seenBehindMoreIsNever() {
        for (int all = 0; all <= 24; all++) {
            MiddlePlank x = Check.bridge("....", "g1w9", "aaaaaaaaaaaaaaaaaaaaaaaa".substring(0, all));
            CHECK.due("20: seen", x.seen(all, 1), 1);
            CHECK.due("23: behind all of " + all, x.rule(0), ALL);
            CHECK.due("24: behind all of " + all, x.began(), 1 << 1);
            if (all < 24) {
                CHECK.due("20: seen behind more", x.seen(all + 1, 1), 2);
                CHECK.due("23: behind more than " + all, x.rule(0), 0);
                CHECK.due("24: behind more than " + all, x.began(), 0);
            }
        }
        seenBehindOneUndone();
    }

    /** Whatever PLANK the GAP was on there before the CROSSING was undone. */
    private static void seenBehindOneUndone() {
        for (int plank = 0; plank < 4; plank++) {
            MiddlePlank x = Check.bridge("....", "p1w9", "aaa");
            x.seen(3, plank);
            CHECK.due("24: behind 3", x.began(), 1 << (plank + 1) % 4);
            CHECK.due("4: undo(2)", x.undo(2), 2);
            CHECK.due("23: behind 3 of 2", x.rule(0), 0);
            CHECK.due("24: behind 3 of 2", x.began(), 0);
            x.type(2, 'a');
            CHECK.due("24: behind 3 again", x.began(), 1 << (plank + 1) % 4);
        }
    }

    private static void seenWithNoPlanks() {
        MiddlePlank x = Check.bridge("", "p1w9", "a");
        CHECK.due("23: no PLANKS, nothing SEEN", x.rule(0), ALL);
        CHECK.due("24: no PLANKS, nothing SEEN", x.began(), 0);
        CHECK.due("20: seen", x.seen(0, 0), 1);
        CHECK.due("23: no PLANKS, SEEN", x.rule(0), 0);
        CHECK.due("24: no PLANKS, SEEN", x.began(), 0);
    }

    /** What was SEEN ahead stays; as many come as there is room for. */
    private static void readAfterSeen() {
        for (int before = 0; before <= 8; before++) {
            MiddlePlank x = sheetOf(1, 0, 4, 0, 4, 0, 4, 0, 4);
            for (int n = 0; n < before; n++) {
                x.seen(0, 4);
            }
            int come = Math.min(4, 8 - before);
            CHECK.due("22: behind " + before, x.read(2), come);
            CHECK.due("22: in all", x.count(7), before + come);
        }
    }

    /** read() tells of no FULL, and takes nothing from the SHEET. */
    private static void readWithoutFull() {
        MiddlePlank x = sheetOf(2, 0, 1, 2, 3, 24, 18, 0);
        for (int n = 0; n < 2; n++) {
            CHECK.due("22: three whole ones, one half", x.read(2), 3);
        }
        CHECK.due("22: room for two", x.read(2), 2);
        CHECK.due("22: room for none", x.read(2), 0);
        int[] due = {0, 1, 2, 3, 24, 18, 0};
        for (int i = 0; i < due.length; i++) {
            CHECK.due("22: item " + i + " stays", x.get(2, 2, i), due[i]);
        }
        x.sheet(2, 0, 0);
        CHECK.due("22: a SHEET of no items", x.read(2), 0);
        CHECK.due("22: none of these is a FINDING", x.count(8), 0);
    }

    /** "SHIFTS (-9 to 9), in place of its own, by which all that was SEEN comes out so, as bits (bit 0: -9)". */
    private static void ruleByEachShift() {
        for (int kind = 0; kind < 4; kind++) {
            for (int shift = -9; shift <= 9; shift++) {
                MiddlePlank x = Check.bridge("...................", "phcg".charAt(kind) + "1w1", "a");
                x.seen(1, 9 + shift);
                CHECK.due("23: kind " + kind + " by " + shift, x.rule(kind), 1 << (shift + 9));
                int own = new int[] {1, 2, -1, 0}[kind];
                CHECK.due("23: another kind", x.rule((kind + 1) % 4), shift == own ? ALL : 0);
                CHECK.due("23: SHIFT is still its own", x.shift(kind, own), own);
            }
        }
    }

    private static void ruleFromTheEast() {
        MiddlePlank x = Check.bridge("...................", "p1e1;p1w1", "aab");
        x.seen(2, 3);
        CHECK.due("23: twice by 3", x.rule(0), 1 << 12);
        x.seen(3, 6);
        CHECK.due("23: and back by 3", x.rule(0), 1 << 12);
        x.seen(1, 7);
        CHECK.due("23: not all that was SEEN", x.rule(0), 0);
    }

    /** A SHIFT may make a later one TURN BACK: then the GAP stays where it brought it. */
    private static void ruleByWhoTurnsBack() {
        MiddlePlank x = Check.bridge("rr.......", "p1w1;h6w2", "ab");
        x.set(1, 8);
        x.seen(2, 2);
        CHECK.due("23: by 3 to 2, or on from 0 by 2", x.rule(0), 1 << 1 | 1 << 3 | 1 << 10 | 1 << 12);
        CHECK.due("23: of the heavy, from 0 by 2", x.rule(1), 1 << 2 | 1 << 11);
    }

    /** "BEGAN: PLANKS that there are as BEGIN, likewise, as bits." */
    private static void beganByEachPlank() {
        for (int n = 1; n <= 19; n++) {
            MiddlePlank x = Check.bridge("...................".substring(0, n), "p1w1", "aaa");
            CHECK.due("24: all of " + n, x.began(), (1 << n) - 1);
            for (int plank = 0; plank < 19; plank++) {
                x.seen(0, plank);
                CHECK.due("24: " + plank + " of " + n, x.began(), plank < n ? 1 << plank : 0);
                x.forget();
                x.seen(3, plank);
                CHECK.due("24: behind 3 on " + plank + " of " + n, x.began(),
                        plank < n ? 1 << (plank - 3 + 3 * n) % n : 0);
                x.forget();
                x.set(1, plank);
            }
        }
    }

    /** "ASK: .. of like ones the least": behind 0 the PLANKS of BEGAN are all apart, so it is 0. */
    private static void askIsOfBegan() {
        MiddlePlank x = Check.bridge("rr...", "p6w2;b1w9;p1w1", "caabca");
        for (int plank = 0; plank < 5; plank++) {
            CHECK.due("25: ask()", x.ask(), 0);
            x.seen(2, plank);
        }
        x.forget();
        x.wipe(2);
        CHECK.due("25: no CROSSINGS", x.ask(), 0);
        x.wipe(0);
        CHECK.due("25: no PLANKS", x.ask(), 0);
    }

    /** "each CROSSING is by c sixteenths (0 to 16)"; "FRACTIONS are told in lowest terms, above and below (0 by 1)". */
    private static void maybeByEachSixteenth() {
        int[] above = {0, 1, 1, 3, 1, 5, 3, 7, 1, 9, 5, 11, 3, 13, 7, 15, 1};
        int[] below = {1, 16, 8, 16, 4, 16, 8, 16, 2, 16, 8, 16, 4, 16, 8, 16, 1};
        MiddlePlank x = Check.bridge("...", "p1w1", "a");
        x.set(1, 0);
        for (int c = 0; c <= 16; c++) {
            fraction(x, c, 1, above[c], below[c]);
            fraction(x, c, 0, above[16 - c], below[16 - c]);
            fraction(x, c, 2, 0, 1);
        }
    }

    /** All PLANKS together are 1. */
    private static void maybeIsOneInAll() {
        MiddlePlank x = Check.bridge("..r..rr....", "p3w2;h7e3;c1w1;g4e0;b6w9", "abcdeabche");
        for (int c = 0; c <= 16; c++) {
            long sum = 0;
            for (int plank = 0; plank < 11; plank++) {
                long below = x.maybe(c, plank, 1);
                CHECK.holds("26: below is 1 to 16 to the 10th", below >= 1 && below <= 1L << 40);
                sum += x.maybe(c, plank, 0) * ((1L << 40) / Math.max(below, 1));
            }
            CHECK.due("26: all together by " + c, sum, 1L << 40);
        }
    }

    /** "by itself (else IDLE)": two ways to one PLANK add up, and who stays away changes what the next one meets. */
    private static void maybeByItself() {
        MiddlePlank x = Check.bridge("...", "p1w1;p1e1", "ab");
        x.set(1, 0);
        fraction(x, 4, 0, 5, 8);
        fraction(x, 4, 1, 3, 16);
        fraction(x, 4, 2, 3, 16);
        MiddlePlank y = Check.bridge("..rr.", "c1w1;p6w2", "ab");
        y.set(1, 1);
        fraction(y, 8, 0, 1, 4);
        fraction(y, 8, 1, 3, 4);
        fraction(y, 8, 2, 0, 1);
        MiddlePlank none = Check.bridge("...", "", "ab");
        fraction(none, 8, 0, 1, 1);
        MiddlePlank dry = Check.bridge("...", "p1w1", "aa");
        dry.set(0, 1);
        fraction(dry, 8, 0, 1, 1);
        dry.seen(0, 2);
        fraction(dry, 8, 2, 0, 1);
    }

    /** "BAD: also where there are more than 10 CROSSINGS." */
    private static void maybeOfUpTo10() {
        MiddlePlank x = Check.bridge("...", "g1w1", "");
        for (int all = 0; all <= 24; all++) {
            CHECK.due("26: above, of " + all, x.maybe(3, 0, 0), all <= 10 ? 1 : BAD_LONG);
            CHECK.due("26: below, of " + all, x.maybe(3, 0, 1), all <= 10 ? 1 : BAD_LONG);
            CHECK.due("26: a PLANK that is not there", x.maybe(3, 3, 1), BAD_LONG);
            x.type(2, 'a');
        }
    }

    /** Eight who move the GAP by 1, -1, 2, -2, 3, -3, 4, -4: where it is tells which came. */
    private static MiddlePlank tellingApart(int crossers) {
        String eight = "p1w1;p1e1;h1w1;h1e1;c1w1;c1e1;g1w1;g1e1";
        MiddlePlank x = Check.bridge("...................", eight.substring(0, 5 * crossers - 1), "");
        x.shift(2, 3);
        x.shift(3, 4);
        return x;
    }

    private static int byLot(int lot) {
        return lot % 2 == 0 ? lot / 2 + 1 : -(lot / 2 + 1);
    }

    /** "LOTS of m: .. its upper 16 bits as a number from 0 on, modulo m"; what each SEED becomes is written out. */
    private static void weekByEachLot() {
        int[] seeds = {0, 1, -1, Integer.MIN_VALUE};
        long[] become = {12345L, 1103527590L, 3191464396L, 2147495993L};
        for (int m = 1; m <= 8; m++) {
            MiddlePlank x = tellingApart(m);
            for (int k = 0; k < seeds.length; k++) {
                int lot = (int) (become[k] / 65536 % m);
                CHECK.due("27: SEED " + seeds[k] + " of " + m, x.week(seeds[k], 1, 0), 9 + byLot(lot));
                CHECK.due("27: SEED " + seeds[k] + " of " + m + ", CROSSES", x.week(seeds[k], 1, 1), 1);
            }
        }
    }

    /** "SEED becomes 1103515245 SEED and 12345, as ints that wrap": again for each, by arithmetic without bounds. */
    private static void weekByLotsInARow() {
        BigInteger all = BigInteger.TWO.pow(32);
        MiddlePlank x = tellingApart(7);
        for (int seed : new int[] {0, 1, 7, -7, 65535, 65536, Integer.MAX_VALUE, Integer.MIN_VALUE, 123456789}) {
            BigInteger lot = BigInteger.valueOf(seed);
            int gap = 9;
            for (int n = 1; n <= 20; n++) {
                lot = lot.multiply(BigInteger.valueOf(1103515245)).add(BigInteger.valueOf(12345)).mod(all);
                gap = Math.floorMod(gap + byLot(lot.shiftRight(16).intValueExact() % 7), 19);
                CHECK.due("27: SEED " + seed + ", " + n + " times", x.week(seed, n, 0), gap);
            }
        }
    }

    /** "n times (1 to 99)": each number of times; of these alone it is told how many CROSS. */
    private static void weekOfUpTo99() {
        MiddlePlank x = Check.bridge("...................", "p1w1", "aaa");
        for (int n = 1; n <= 99; n++) {
            CHECK.due("27: " + n + " times, where", x.week(n, n, 0), (12 + n) % 19);
            CHECK.due("27: " + n + " times, how many", x.week(n, n, 1), n);
        }
        CHECK.due("27: it changes nothing", x.gap(3), 12);
    }

    /** "(no LOTS where there are none): where the GAP is then; NONE". */
    private static void weekWithoutSomething() {
        MiddlePlank x = Check.bridge("", "p1w1", "a");
        CHECK.due("27: no PLANKS, where", x.week(1, 99, 0), NONE);
        CHECK.due("27: no PLANKS, how many", x.week(1, 99, 1), 0);
        CHECK.due("27: no PLANKS, n 0 is BAD still", x.week(1, 0, 0), BAD);
        MiddlePlank dry = Check.bridge("...", "p1w1", "a");
        dry.set(0, 1);
        CHECK.due("27: no river, where", dry.week(1, 99, 0), 0);
        CHECK.due("27: no river, how many", dry.week(1, 99, 1), 0);
        MiddlePlank nobody = Check.bridge("...", "", "");
        CHECK.due("27: nobody, n 100 is BAD still", nobody.week(1, 100, 1), BAD);
        CHECK.due("27: nobody, where", nobody.week(1, 99, 0), 0);
        CHECK.due("27: nobody, how many", nobody.week(1, 99, 1), 0);
    }
}
