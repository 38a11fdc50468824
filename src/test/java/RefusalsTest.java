import java.util.ArrayList;
import java.util.List;
import java.util.function.Supplier;
import java.util.function.ToLongFunction;

/** "Refusals, the first that fits, in the order told at each act"; "They change nothing (FINDINGS but count() 8)." */
public final class RefusalsTest {
    private static final Check CHECK = new Check("RefusalsTest");
    private static final int NONE = MiddlePlank.NONE, BAD = MiddlePlank.BAD;
    private static final int NOT = MiddlePlank.NOT, FULL = MiddlePlank.FULL;
    private static final int NULL = -11, INDEX = -12, CAST = -13, STORE = -14, SIZE = -15;
    private static final int BAD_OF_ANY_NUMBER = -10002;
    private static final int LEAST = Integer.MIN_VALUE;
    private static final long BAD_LONG = Long.MIN_VALUE + 2;

    /** A call that is refused, and by which answer. */
    private record Refused(String told, ToLongFunction<MiddlePlank> call, long due) {
    }

    private static final List<Refused> BAD_IN_ANY_STATE = new ArrayList<>();

    public static void main(String[] args) {
        badTexts();
        badBridge();
        badPlans();
        badSeen();
        badSheets();
        for (Supplier<MiddlePlank> state : states()) {
            for (Refused refused : BAD_IN_ANY_STATE) {
                refusedAlone(state, refused);
            }
        }
        notAndFull();
        findings();
        firstThatFits();
        latestFindingStays();
        CHECK.end();
    }

    private static void bad(String told, ToLongFunction<MiddlePlank> call) {
        BAD_IN_ANY_STATE.add(new Refused(told, call, BAD));
    }

    private static void bad(String told, ToLongFunction<MiddlePlank> call, long due) {
        BAD_IN_ANY_STATE.add(new Refused(told, call, due));
    }

    /** Numbers just outside least to most, and as far outside as can be. */
    private static int[] outside(int least, int most) {
        return new int[] {least - 1, most + 1, Integer.MIN_VALUE, Integer.MAX_VALUE};
    }

    private static void badTexts() {
        for (int text : outside(0, 2)) {
            bad("type(" + text + ")", x -> x.type(text, '.'));
            bad("wipe(" + text + ")", x -> x.wipe(text));
            bad("undo(" + text + ")", x -> x.undo(text));
            bad("fault(" + text + ")", x -> x.fault(text));
        }
        for (int b : outside(0, 255)) {
            bad("type(0, " + b + ")", x -> x.type(0, b));
            bad("type(1, " + b + ")", x -> x.type(1, b));
            bad("type(2, " + b + ")", x -> x.type(2, b));
        }
        for (int plank : outside(0, 18)) {
            bad("plank(" + plank + ")", x -> x.plank(plank));
        }
        for (int i : outside(0, 23)) {
            bad("crossing(" + i + ")", x -> x.crossing(i));
        }
        for (int crosser : outside(0, 7)) {
            bad("crosser(" + crosser + ")", x -> x.crosser(crosser, 0));
        }
        for (int what : outside(0, 3)) {
            bad("crosser(0, " + what + ")", x -> x.crosser(0, what));
        }
    }

    private static void badBridge() {
        for (int what : outside(0, 1)) {
            bad("set(" + what + ")", x -> x.set(what, 1));
            bad("times(0, " + what + ")", x -> x.times(0, what));
        }
        for (int river : outside(0, 9)) {
            bad("set(0, " + river + ")", x -> x.set(0, river));
        }
        for (int begin : outside(0, 18)) {
            bad("set(1, " + begin + ")", x -> x.set(1, begin));
        }
        for (int kind : outside(0, 3)) {
            bad("shift(" + kind + ")", x -> x.shift(kind, 3), BAD_OF_ANY_NUMBER);
        }
        for (int v : outside(-9, 9)) {
            for (int kind = 0; kind < 4; kind++) {
                int of = kind;
                bad("shift(" + of + ", " + v + ")", x -> x.shift(of, v), BAD_OF_ANY_NUMBER);
            }
        }
        for (int number : outside(0, 24)) {
            bad("gap(" + number + ")", x -> x.gap(number));
            bad("taken(" + number + ")", x -> x.taken(number));
        }
        for (int i : outside(0, 23)) {
            bad("comes(" + i + ")", x -> x.comes(i, 0));
        }
        for (int what : outside(0, 2)) {
            bad("comes(0, " + what + ")", x -> x.comes(0, what));
        }
        for (int crosser : outside(0, 7)) {
            bad("times(" + crosser + ")", x -> x.times(crosser, 0));
        }
    }

    private static void badPlans() {
        for (int what : outside(0, 9)) {
            bad("order(" + what + ")", x -> x.order(what));
        }
        for (int crosser : outside(0, 7)) {
            bad("ahead(" + crosser + ")", x -> x.ahead(crosser));
            bad("often(" + crosser + ", 0)", x -> x.often(crosser, 0));
            bad("often(0, " + crosser + ")", x -> x.often(0, crosser));
            bad("often of itself, " + crosser, x -> x.often(crosser, crosser));
        }
        for (int crosser = 0; crosser < 8; crosser++) {
            int itself = crosser;
            bad("often of itself, " + crosser, x -> x.often(itself, itself));
        }
    }

    private static void badSeen() {
        for (int number : outside(0, 24)) {
            bad("seen(" + number + ", 0)", x -> x.seen(number, 0));
        }
        for (int plank : outside(0, 18)) {
            bad("seen(0, " + plank + ")", x -> x.seen(0, plank));
            bad("maybe(1, " + plank + ")", x -> x.maybe(1, plank, 0), BAD_LONG);
        }
        for (int kind : outside(0, 3)) {
            bad("rule(" + kind + ")", x -> x.rule(kind));
            bad("read(" + kind + ")", x -> x.read(kind));
        }
        for (int c : outside(0, 16)) {
            bad("maybe(" + c + ")", x -> x.maybe(c, 0, 0), BAD_LONG);
        }
        for (int what : outside(0, 1)) {
            bad("maybe(1, 0, " + what + ")", x -> x.maybe(1, 0, what), BAD_LONG);
            bad("week(1, 1, " + what + ")", x -> x.week(1, 1, what));
        }
        for (int n : outside(1, 99)) {
            bad("week(1, " + n + ", 0)", x -> x.week(1, n, 0));
            bad("week(1, " + n + ", 1)", x -> x.week(1, n, 1));
        }
    }

    private static void badSheets() {
        for (int s : outside(0, 3)) {
            bad("sheet(" + s + ")", x -> x.sheet(s, 0, 1));
            bad("sheet(" + s + "), SIZE", x -> x.sheet(s, 0, -1));
            bad("lose(" + s + ")", x -> x.lose(s));
            bad("lay(" + s + ")", x -> x.lay(s, 0, 0, 1));
            bad("get(" + s + ")", x -> x.get(s, 0, 0), LEAST);
            bad("write(" + s + ")", x -> x.write(s));
            for (int t = 0; t < 4; t++) {
                int other = t;
                bad("copy(" + s + ") to " + t, x -> x.copy(s, -1, other, -1, -1));
                bad("copy(" + t + ") to " + s, x -> x.copy(other, -1, s, -1, -1));
            }
            bad("copy(" + s + ") to it", x -> x.copy(s, 0, s, 0, 0));
        }
        for (int form : outside(0, 2)) {
            for (int each = 0; each < 4; each++) {
                int s = each;
                bad("sheet(" + s + ") of FORM " + form, x -> x.sheet(s, form, 1));
                bad("sheet(" + s + ") of FORM " + form + ", SIZE", x -> x.sheet(s, form, -1));
                bad("lay(" + s + ") of FORM " + form, x -> x.lay(s, form, 99, 1));
                bad("get(" + s + ") of FORM " + form, x -> x.get(s, form, 99), LEAST);
            }
        }
        bad("sheet of 61", x -> x.sheet(0, 0, 61));
        bad("sheet of very many", x -> x.sheet(3, 2, Integer.MAX_VALUE));
        for (int what : outside(0, 8)) {
            bad("count(" + what + ")", x -> x.count(what));
        }
    }

    private static List<Supplier<MiddlePlank>> states() {
        return List.of(MiddlePlank::new, RefusalsTest::inUse, RefusalsTest::full, RefusalsTest::faulty);
    }

    /** Nothing as at first: settings, SHEETS of each FORM and a LOST one, SEEN, a FINDING. */
    private static MiddlePlank inUse() {
        MiddlePlank x = Check.bridge("..r....r..", "p3w2;h7e3;b5e4;c6w1", "abcdhcb");
        x.set(0, 4);
        x.set(1, 13);
        for (int kind = 0; kind < 4; kind++) {
            x.shift(kind, 3 - 2 * kind);
        }
        for (int form = 0; form < 3; form++) {
            x.sheet(form, form, 4 + form);
            for (int i = 0; i < 4 + form; i++) {
                x.lay(form, form, i, 10 * form + i + 1);
            }
        }
        x.seen(0, 3);
        x.seen(2, 3);
        x.sheet(3, 0, -5);
        return x;
    }

    private static MiddlePlank full() {
        MiddlePlank x = Check.bridge("r.................r", "p1w9;p2e9;h3w9;h4e9;c5w9;c6e9;g7w9;b8e9",
                "abcdefghabcdefghabcdefgh");
        for (int i = 0; i < 8; i++) {
            x.seen(i, x.gap(i));
        }
        x.sheet(3, 2, 60);
        return x;
    }

    private static MiddlePlank faulty() {
        MiddlePlank x = Check.bridge("..x", "p1w9;;", "abx");
        x.seen(24, 18);
        x.lose(2);
        return x;
    }

    /** The twin is spared the call, and tells the same but for the FINDING. */
    private static void refusedAlone(Supplier<MiddlePlank> state, Refused refused) {
        MiddlePlank x = state.get();
        MiddlePlank twin = state.get();
        CHECK.due(refused.told(), refused.call().applyAsLong(x), refused.due());
        CHECK.holds(refused.told() + " changes nothing", Told.all(x).equals(Told.all(twin)));
    }

    private static void foundAlone(Supplier<MiddlePlank> state, Refused refused, int number) {
        MiddlePlank x = state.get();
        MiddlePlank twin = state.get();
        CHECK.due(refused.told(), refused.call().applyAsLong(x), refused.due());
        String due = Told.all(twin).replaceFirst("finding \\d+", "finding " + number);
        CHECK.holds(refused.told() + " changes nothing but count(8), to " + number, Told.all(x).equals(due));
    }

    private static void notAndFull() {
        for (int each = 0; each < 3; each++) {
            int text = each;
            refusedAlone(MiddlePlank::new, new Refused("undo an empty text", x -> x.undo(text), NOT));
            refusedAlone(RefusalsTest::full, new Refused("type to a full text", x -> x.type(text, 'a'), FULL));
        }
        refusedAlone(RefusalsTest::full, new Refused("a ninth SEEN", x -> x.seen(0, 0), FULL));
        refusedAlone(RefusalsTest::inUse, new Refused("times of none", x -> x.times(4, 0), BAD));
        refusedAlone(RefusalsTest::inUse, new Refused("crosser of none", x -> x.crosser(4, 0), BAD));
        refusedAlone(RefusalsTest::inUse, new Refused("ahead of none", x -> x.ahead(4), BAD));
        refusedAlone(RefusalsTest::inUse, new Refused("often of none", x -> x.often(4, 0), BAD));
        refusedAlone(RefusalsTest::inUse, new Refused("often by none", x -> x.often(0, 4), BAD));
        refusedAlone(RefusalsTest::inUse, new Refused("gap behind more", x -> x.gap(8), BAD));
        refusedAlone(RefusalsTest::inUse, new Refused("taken behind more", x -> x.taken(8), BAD));
        refusedAlone(RefusalsTest::inUse, new Refused("comes of no CROSSING", x -> x.comes(7, 0), BAD));
        refusedAlone(RefusalsTest::inUse, new Refused("maybe of no PLANK", x -> x.maybe(1, 10, 0), BAD_LONG));
        refusedAlone(RefusalsTest::full, new Refused("maybe of 24 CROSSINGS", x -> x.maybe(1, 0, 0), BAD_LONG));
        refusedAlone(RefusalsTest::inUse, new Refused("ahead, anyway", x -> x.ahead(0), NOT));
        refusedAlone(RefusalsTest::inUse, new Refused("no such PLANK", x -> x.plank(10), NONE));
    }

    private static void found(String told, int due, ToLongFunction<MiddlePlank> call) {
        foundAlone(RefusalsTest::inUse, new Refused(told, call, due), -10 - due);
    }

    private static void notGot(String told, int number, ToLongFunction<MiddlePlank> call) {
        foundAlone(RefusalsTest::inUse, new Refused(told, call, LEAST), number);
    }

    /** "FINDINGS (answers -10 less the number; they change nothing but count() 8)", at each act that tells of them. */
    private static void findings() {
        found("read of a LOST one", NULL, x -> x.read(3));
        found("lose of a LOST one", NULL, x -> x.lose(3));
        found("write to a LOST one", NULL, x -> x.write(3));
        found("sheet below 0", SIZE, x -> x.sheet(1, 2, -1));
        found("sheet far below 0", SIZE, x -> x.sheet(3, 0, LEAST));
        for (int each = 0; each < 3; each++) {
            int form = each;
            found("lay in a LOST one", NULL, x -> x.lay(3, form, 0, 1));
            notGot("get of a LOST one", 1, x -> x.get(3, form, 0));
            found("copy from a LOST one", NULL, x -> x.copy(3, 0, form, 0, 0));
            found("copy to a LOST one", NULL, x -> x.copy(form, 0, 3, 0, 0));
            for (int i : outside(0, 3 + form)) {
                found("lay at " + i, INDEX, x -> x.lay(form, form, i, 1));
                notGot("get of " + i, 2, x -> x.get(form, form, i));
                found("copy from " + i, INDEX, x -> x.copy(form, i, form, 0, 2));
                found("copy to " + i, INDEX, x -> x.copy(form, 0, form, i, 2));
            }
            found("copy of -1", INDEX, x -> x.copy(form, 1, form, 1, -1));
            found("copy of one too many", INDEX, x -> x.copy(form, 0, form, 0, 5 + form));
            for (int another = 0; another < 3; another++) {
                int other = another;
                if (other != form) {
                    found("lay as of FORM " + other, CAST, x -> x.lay(form, other, 0, 1));
                    notGot("get as of FORM " + other, 3, x -> x.get(form, other, 0));
                    found("copy to FORM " + other, STORE, x -> x.copy(form, 0, other, 0, 1));
                    found("copy none to FORM " + other, STORE, x -> x.copy(form, 0, other, 0, 0));
                }
            }
        }
        found("copy from LOST to LOST", NULL, x -> x.copy(3, 0, 3, 0, 0));
    }

    /** "the first that fits, in the order told at each act": BAD, NULL, NOT, FULL, other FINDINGS. */
    private static void firstThatFits() {
        refusedAlone(RefusalsTest::full, new Refused("type, BAD ahead of FULL", x -> x.type(0, 256), BAD));
        refusedAlone(RefusalsTest::full, new Refused("seen, BAD ahead of FULL", x -> x.seen(25, 0), BAD));
        refusedAlone(RefusalsTest::full, new Refused("seen, BAD PLANK ahead of FULL", x -> x.seen(0, 19), BAD));
        refusedAlone(RefusalsTest::inUse, new Refused("lay, BAD ahead of NULL", x -> x.lay(3, 3, -1, 0), BAD));
        refusedAlone(RefusalsTest::inUse, new Refused("copy, BAD ahead of NULL", x -> x.copy(3, -1, 4, -1, -1), BAD));
        refusedAlone(RefusalsTest::inUse, new Refused("copy, BAD s ahead of NULL", x -> x.copy(4, -1, 3, -1, -1), BAD));
        refusedAlone(RefusalsTest::inUse, new Refused("sheet, BAD ahead of SIZE", x -> x.sheet(0, 3, -1), BAD));
        found("lay, NULL ahead of INDEX", NULL, x -> x.lay(3, 0, -1, 0));
        found("lay, NULL ahead of CAST", NULL, x -> x.lay(3, 2, 0, 0));
        found("lay, CAST ahead of INDEX", CAST, x -> x.lay(0, 1, -1, 0));
        notGot("get, NULL ahead of INDEX", 1, x -> x.get(3, 0, -1));
        notGot("get, CAST ahead of INDEX", 3, x -> x.get(0, 1, -1));
        found("copy, NULL s ahead of STORE, INDEX", NULL, x -> x.copy(3, -1, 1, -1, -1));
        found("copy, NULL t ahead of STORE, INDEX", NULL, x -> x.copy(1, -1, 3, -1, -1));
        found("copy, STORE ahead of INDEX", STORE, x -> x.copy(0, -1, 1, -1, -1));
    }

    /** "8 the number of the latest FINDING (0 before any)": neither BAD nor what goes well takes it away. */
    private static void latestFindingStays() {
        MiddlePlank x = new MiddlePlank();
        CHECK.due("0 before any", x.count(8), 0);
        x.lose(0);
        CHECK.due("NULL", x.count(8), 1);
        x.lose(4);
        x.type(0, 256);
        x.sheet(0, 1, 2);
        CHECK.due("still NULL", x.count(8), 1);
        x.lay(0, 1, 2, 0);
        CHECK.due("INDEX", x.count(8), 2);
        x.lay(0, 1, 1, 0);
        x.get(0, 1, 1);
        x.get(0, 3, 1);
        CHECK.due("still INDEX", x.count(8), 2);
        x.get(0, 2, 1);
        CHECK.due("CAST", x.count(8), 3);
        x.sheet(1, 0, 2);
        x.copy(0, 0, 1, 0, 1);
        CHECK.due("STORE", x.count(8), 4);
        x.sheet(1, 0, -1);
        CHECK.due("SIZE", x.count(8), 5);
        x.copy(0, 0, 0, 1, 1);
        x.write(0);
        x.read(0);
        x.lose(0);
        x.digest();
        CHECK.due("still SIZE", x.count(8), 5);
    }
}
