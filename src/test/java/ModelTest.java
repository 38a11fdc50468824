import java.util.Random;

/** Promises 2 to 27 by many bridges of chance, always the same ones, each answer against the slow model's. */
public final class ModelTest {
    private static final Check CHECK = new Check("ModelTest");
    private static final Random CHANCE = new Random(19);
    private static final int[] MOST = {19, 39, 24};

    public static void main(String[] args) {
        for (int n = 0; n < 600; n++) {
            MiddlePlank x = new MiddlePlank();
            Model model = new Model();
            fill(x, model);
            compare("bridge " + n, x, model);
            change(x, model);
            compare("bridge " + n + ", changed", x, model);
        }
        CHECK.end();
    }

    private static int chance(int n) {
        return CHANCE.nextInt(n);
    }

    private static void type(MiddlePlank x, Model model, int text, char b) {
        if (model.texts[text].length() < MOST[text]) {
            model.texts[text].append(b);
            CHECK.due("2: type", x.type(text, b), model.texts[text].length());
        } else {
            CHECK.due("2: type", x.type(text, b), -4);
        }
    }

    private static void typeAll(MiddlePlank x, Model model, int text, String bytes) {
        for (char b : bytes.toCharArray()) {
            type(x, model, text, b);
        }
    }

    private static void fill(MiddlePlank x, Model model) {
        int planks = chance(5) == 0 ? 19 : chance(20);
        int rotten = chance(4);
        for (int i = 0; i < planks; i++) {
            type(x, model, 0, chance(4) < rotten ? 'r' : '.');
        }
        int crossers = chance(20) == 0 ? 8 : chance(7);
        for (int i = 0; i < crossers; i++) {
            String kind = "phcgb".charAt(chance(5)) + "" + (1 + chance(9)) + "we".charAt(chance(2)) + chance(10);
            typeAll(x, model, 1, (i == 0 ? "" : ";") + kind);
        }
        int crossings = chance(3) == 0 ? chance(25) : chance(11);
        for (int i = 0; i < crossings; i++) {
            type(x, model, 2, (char) ('a' + (chance(8) == 0 ? chance(8) : chance(Math.max(crossers, 1)))));
        }
        if (chance(8) == 0) {
            type(x, model, chance(3), "x;.ra1".charAt(chance(6)));
        }
        settings(x, model);
        sightings(x, model);
    }

    private static void settings(MiddlePlank x, Model model) {
        if (chance(2) == 0) {
            int was = model.river;
            model.river = chance(10);
            CHECK.due("9: set(0)", x.set(0, model.river), was);
        }
        if (chance(2) == 0) {
            int was = model.begin;
            model.begin = chance(19);
            CHECK.due("9: set(1)", x.set(1, model.begin), was);
        }
        int kind = chance(6);
        if (kind < 4) {
            int was = model.shifts[kind];
            model.shifts[kind] = chance(19) - 9;
            CHECK.due("10: shift", x.shift(kind, model.shifts[kind]), was);
        }
    }

    /** Mostly what is so, sometimes what may be so or not. */
    private static void sightings(MiddlePlank x, Model model) {
        int n = chance(4);
        for (int i = 0; i < n; i++) {
            int number = chance(10) == 0 ? chance(25) : chance(model.crossings().length + 1);
            boolean known = number <= model.crossings().length && model.firstGap() >= 0 && chance(5) > 0;
            int plank = known ? model.gap(number) : chance(19);
            model.seen.add(new int[] {number, plank});
            CHECK.due("20: seen", x.seen(number, plank), model.seen.size());
        }
    }

    private static void change(MiddlePlank x, Model model) {
        int text = chance(3);
        StringBuilder bytes = model.texts[text];
        if (chance(4) == 0) {
            CHECK.due("3: wipe", x.wipe(text), bytes.length());
            bytes.setLength(0);
        }
        int undone = text == 1 && chance(4) > 0 ? 5 : 1;
        for (int i = 0; i < undone && bytes.length() > 0; i++) {
            bytes.setLength(bytes.length() - 1);
            CHECK.due("4: undo", x.undo(text), bytes.length());
        }
        settings(x, model);
        if (chance(2) == 0) {
            CHECK.due("21: forget", x.forget(), model.seen.size());
            model.seen.clear();
        }
        sightings(x, model);
    }

    private static void compare(String of, MiddlePlank x, Model model) {
        for (int text = 0; text < 3; text++) {
            CHECK.due(of + " 5: fault(" + text + ")", x.fault(text), model.fault(text));
        }
        compareTexts(of, x, model);
        compareCrossings(of, x, model);
        comparePlans(of, x, model);
        for (int kind = 0; kind < 4; kind++) {
            CHECK.due(of + " 23: rule(" + kind + ")", x.rule(kind), model.rule(kind));
        }
        CHECK.due(of + " 24: began()", x.began(), model.began());
        CHECK.due(of + " 25: ask()", x.ask(), model.ask());
        compareChances(of, x, model);
    }

    private static void compareTexts(String of, MiddlePlank x, Model model) {
        String planks = model.planks();
        for (int i = 0; i < 19; i++) {
            int due = i >= planks.length() ? -1 : planks.charAt(i) == 'r' ? 1 : 0;
            CHECK.due(of + " 6: plank(" + i + ")", x.plank(i), due);
        }
        String[] crossers = model.crossers();
        for (int i = 0; i < 8; i++) {
            boolean there = i < crossers.length;
            CHECK.due(of + " 7: kind", x.crosser(i, 0), there ? "phcgb".indexOf(crossers[i].charAt(0)) : -2);
            CHECK.due(of + " 7: WEIGHT", x.crosser(i, 1), there ? crossers[i].charAt(1) - '0' : -2);
            CHECK.due(of + " 7: END", x.crosser(i, 2), there ? "we".indexOf(crossers[i].charAt(2)) : -2);
            CHECK.due(of + " 7: LEAPS", x.crosser(i, 3), there ? crossers[i].charAt(3) - '0' : -2);
        }
        int[] crossings = model.crossings();
        for (int i = 0; i < 24; i++) {
            CHECK.due(of + " 8: crossing(" + i + ")", x.crossing(i), i < crossings.length ? crossings[i] : -1);
        }
        CHECK.due(of + " 34: count(0)", x.count(0), planks.length());
        CHECK.due(of + " 34: count(1)", x.count(1), crossers.length);
        CHECK.due(of + " 34: count(2)", x.count(2), crossings.length);
    }

    private static void compareCrossings(String of, MiddlePlank x, Model model) {
        int all = model.crossings().length;
        for (int number = 0; number <= 25; number++) {
            CHECK.due(of + " 11: gap(" + number + ")", x.gap(number), number <= all ? model.gap(number) : -2);
            CHECK.due(of + " 14: taken(" + number + ")", x.taken(number), number <= all ? model.taken(number) : -2);
        }
        int i = 0;
        for (Model.Come come : model.walk()) {
            CHECK.due(of + " 12: comes(" + i + ", 0)", x.comes(i, 0), come.what());
            CHECK.due(of + " 12: comes(" + i + ", 1)", x.comes(i, 1), come.toll());
            CHECK.due(of + " 12: comes(" + i + ", 2)", x.comes(i, 2), come.longest());
            i++;
        }
        CHECK.due(of + " 12: comes(" + all + ", 0)", x.comes(all, 0), -2);
        for (int who = 0; who < model.crossers().length; who++) {
            CHECK.due(of + " 13: times(" + who + ", 0)", x.times(who, 0), model.times(who, 1));
            CHECK.due(of + " 13: times(" + who + ", 1)", x.times(who, 1), model.times(who, 2));
        }
        CHECK.due(of + " 15: stuck()", x.stuck(), model.stuck());
        CHECK.due(of + " 16: worn()", x.worn(), model.worn());
        CHECK.due(of + " 34: count(6)", x.count(6), model.taken(all));
    }

    private static void comparePlans(String of, MiddlePlank x, Model model) {
        int n = model.crossers().length;
        // Every row of eight is tried rarely, as the model is slow.
        if (n <= 5 || chance(8) == 0) {
            int[] order = model.order();
            for (int what = 0; what < 10; what++) {
                CHECK.due(of + " 17: order(" + what + ")", x.order(what), what < order.length ? order[what] : -1);
            }
        }
        for (int who = 0; who < n; who++) {
            CHECK.due(of + " 18: ahead(" + who + ")", x.ahead(who), model.ahead(who));
            for (int other = 0; other < n; other++) {
                int due = who == other ? -2 : model.often(who, other);
                CHECK.due(of + " 19: often(" + who + ", " + other + ")", x.often(who, other), due);
            }
        }
    }

    private static void compareChances(String of, MiddlePlank x, Model model) {
        boolean told = model.crossings().length <= 10;
        int c = chance(17);
        int plank = chance(19);
        long[] due = {Long.MIN_VALUE + 2, Long.MIN_VALUE + 2};
        if (told && plank < model.planks().length()) {
            due = model.maybe(c, plank);
        }
        CHECK.due(of + " 26: maybe(" + c + ", " + plank + ", 0)", x.maybe(c, plank, 0), due[0]);
        CHECK.due(of + " 26: maybe(" + c + ", " + plank + ", 1)", x.maybe(c, plank, 1), due[1]);
        int seed = CHANCE.nextInt();
        int n = 1 + chance(99);
        int[] week = model.week(seed, n);
        CHECK.due(of + " 27: week(" + seed + ", " + n + ", 0)", x.week(seed, n, 0), week[0]);
        CHECK.due(of + " 27: week(" + seed + ", " + n + ", 1)", x.week(seed, n, 1), week[1]);
    }
}
