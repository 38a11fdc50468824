/** Promise 35: digest, of the other answers, and that it changes nothing. */
public final class DigestTest {
    private static final Check CHECK = new Check("DigestTest");

    public static void main(String[] args) {
        of("a new object", new MiddlePlank());
        of("all kinds", Check.bridge("..r..rr....", "p3w2;h7e3;c1w1;g4e0;b6w9", "abcdeabcde"));
        of("11 CROSSINGS", Check.bridge("..r..rr....", "p3w2;h7e3;c1w1;g4e0;b6w9", "abcdeabcdea"));
        of("CROSSERS and CROSSINGS alone", Check.bridge("", "p3w2;h7e3", "ab"));
        of("PLANKS and CROSSINGS alone", Check.bridge("rrr.", "", "ab"));
        of("FAULTS", Check.bridge("rr-", "p", "i"));
        MiddlePlank seen = Check.bridge(".....", "p3w2;h7e3", "ab");
        seen.seen(1, 0);
        of("SEEN", seen);
        findingsDoNotCount();
        newObject();
        smallBridge();
        tooManyForMaybe();
        moreThanADigestSees();
        CHECK.end();
    }

    private static void of(String what, MiddlePlank x) {
        long due = slow(x);
        CHECK.due("35: " + what, x.digest(), due);
        CHECK.due("35: " + what + " again", x.digest(), due);
        CHECK.due("35: " + what + " changes nothing", slow(x), due);
    }

    private static void findingsDoNotCount() {
        MiddlePlank x = Check.bridge(".....", "p3w2;h7e3", "ab");
        long before = x.digest();
        x.lose(0);
        CHECK.due("35: count(8) is no part", x.digest(), before);
    }

    /** Written out: eight counts, three faults, gap, taken, stuck, worn, order, rule, began, ask, week. */
    private static void newObject() {
        long[] row = {0, 0, 0, 0, 0, 0, 0, 0, -1, -1, -1, -1, 0, -1, -1, 0, 0, -1, -1,
            524287, 524287, 524287, 524287, 0, 0, -1, 0};
        long h = 17;
        for (long each : row) {
            h = 31 * h + each;
        }
        CHECK.due("35: a new object, written out", new MiddlePlank().digest(), h);
    }

    private static long slow(MiddlePlank x) {
        long[] h = {17};
        for (int what = 0; what <= 7; what++) {
            more(h, x.count(what));
        }
        for (int text = 0; text <= 2; text++) {
            more(h, x.fault(text));
        }
        for (int plank = 0; plank < x.count(0); plank++) {
            more(h, x.plank(plank), x.maybe(5, plank, 0), x.maybe(5, plank, 1));
        }
        for (int who = 0; who < x.count(1); who++) {
            more(h, x.crosser(who, 0), x.crosser(who, 1), x.crosser(who, 2), x.crosser(who, 3));
            more(h, x.times(who, 0), x.times(who, 1), x.ahead(who), x.often(who, 0));
        }
        for (int i = 0; i < x.count(2); i++) {
            more(h, x.crossing(i), x.comes(i, 0), x.comes(i, 1), x.comes(i, 2));
        }
        for (int number = 0; number <= x.count(2); number++) {
            more(h, x.gap(number), x.taken(number));
        }
        more(h, x.stuck(), x.worn(), x.order(0), x.order(1), x.order(2), x.order(3));
        more(h, x.rule(0), x.rule(1), x.rule(2), x.rule(3));
        more(h, x.began(), x.ask(), x.week(7, 30, 0), x.week(7, 30, 1));
        return h[0];
    }

    private static void more(long[] h, long... each) {
        for (long one : each) {
            h[0] = 31 * h[0] + one;
        }
    }

    private static long of(long... row) {
        long[] h = {17};
        more(h, row);
        return h[0];
    }

    /** Written out: one PLANK, one CROSSER, one CROSSING; it CROSSES anyway, and often() of itself is BAD. */
    private static void smallBridge() {
        MiddlePlank x = Check.bridge(".", "p1w1", "a");
        long due = of(1, 1, 1, 1, 4, 1, 1, 0, -1, -1, -1, 0, 1, 1, 0, 1, 0, 1, 1, 0, -3, -2, 0, 1, 1, 1,
                0, 0, 0, 1, -1, 0, 1, 1, 0, -1, 524287, 524287, 524287, 524287, 1, 0, 0, 30);
        CHECK.due("35: a small bridge, written out", x.digest(), due);
    }

    /** Written out: by 11 CROSSINGS maybe() is told as the least long and 2 more. */
    private static void tooManyForMaybe() {
        MiddlePlank x = Check.bridge(".", "", "aaaaaaaaaaa");
        long bad = Long.MIN_VALUE + 2;
        long[] h = {of(1, 0, 11, 1, 0, 11, 0, 0, -1, -1, -1, 0, bad, bad)};
        for (int i = 0; i < 11; i++) {
            more(h, 0, 0, 0, 0);
        }
        for (int number = 0; number <= 11; number++) {
            more(h, 0, 0);
        }
        more(h, -1, 0, 0, 0, -1, -1, 524287, 524287, 524287, 524287, 1, 0, 0, 0);
        CHECK.due("35: 11 CROSSINGS, written out", x.digest(), h[0]);
    }

    /** SHEETS are no part of it, nor is what a faulty text says. */
    private static void moreThanADigestSees() {
        MiddlePlank x = Check.bridge(".....", "p3w2;h7e3", "ab");
        long before = x.digest();
        x.sheet(0, 0, 9);
        x.lay(0, 0, 1, 5);
        CHECK.due("35: SHEETS are no part", x.digest(), before);
        x.type(2, 'x');
        long faulty = x.digest();
        x.undo(2);
        CHECK.due("35: undone", x.digest(), before);
        x.type(2, 'y');
        CHECK.due("35: another faulty byte", x.digest(), faulty);
        x.seen(24, 18);
        x.undo(2);
        x.forget();
        CHECK.due("35: forgotten", x.digest(), before);
    }
}
