/** A bridge that always lacks a plank, and who comes over it; DOC.md tells what each call answers. */
public final class MiddlePlank {
    public static final int NONE = -1, BAD = -2, NOT = -3, FULL = -4;

    private static final int PLANK_TEXT = 0, CROSSER_TEXT = 1, CROSSING_TEXT = 2;
    private static final int MOST_PLANKS = 19, MOST_CROSSERS = 8, MOST_CROSSINGS = 24;
    private static final int CROSSER_BYTES = 5;
    private static final int MOST_CROSSER_BYTES = MOST_CROSSERS * CROSSER_BYTES - 1;

    private static final int HIGHEST_RIVER = 9, FULL_RIVER = 7, NO_RIVER = 1;
    private static final int HEAVY_WEIGHT = 6, LIGHT = 0, HEAVY = 1;
    private static final int WIDEST_SHIFT = 9;
    private static final int SHIFTED_KINDS = 4, BRIDE = 4;
    private static final int WEST = 0;
    private static final int IDLE = 0, CROSSES = 1, TURNS_BACK = 2;

    private static final int MOST_OFTEN = 9;
    private static final int MOST_SEEN = 8;
    private static final int MOST_BY_CHANCE = 10, SIXTEENTHS = 16, SIXTEENTH_BITS = 4;
    private static final int LONGEST_WEEK = 99;

    private static final int SHEETS = 4, FORMS = 3, MOST_ITEMS = 60;
    private static final int BYTES = 0, SHORTS = 1;
    private static final int NULL = 1, INDEX = 2, CAST = 3, STORE = 4, SIZE = 5;

    private static final int BAD_BESIDE_ANY_NUMBER = -10000 + BAD;
    private static final int LEAST_INT = 1 << 31;
    private static final long BAD_LONG = (1L << 63) - BAD;

    private static final char[] PLANK_SIGNS = {'.', 'r'};
    private static final char[] KIND_SIGNS = {'p', 'h', 'c', 'g', 'b'};
    private static final char[] WEIGHT_SIGNS = {'1', '2', '3', '4', '5', '6', '7', '8', '9'};
    private static final char[] END_SIGNS = {'w', 'e'};
    private static final char[] LEAP_SIGNS = {'0', '1', '2', '3', '4', '5', '6', '7', '8', '9'};
    private static final char[] BETWEEN_SIGNS = {';'};
    private static final char[] CROSSING_SIGNS = {'a', 'b', 'c', 'd', 'e', 'f', 'g', 'h'};

    private final Text[] texts = new Text[3];
    private final Bridge bridge = new Bridge();
    private final Crossers crossers = new Crossers();
    private final Crossings crossings = new Crossings();
    private final int[] gaps = new int[MOST_CROSSINGS + 1];
    private final int[] trialGaps = new int[MOST_CROSSINGS + 1];
    private final int[] trialShifts = new int[SHIFTED_KINDS];
    private final int[] visits = new int[MOST_PLANKS];
    private final Plan plan = new Plan();
    private final Sightings sightings = new Sightings();
    private final long[] chances = new long[MOST_PLANKS];
    private final long[] chancesBehind = new long[MOST_PLANKS];
    private final Sheet[] sheets = new Sheet[SHEETS];
    private int latestFinding;
    /** What the texts, RIVER, BEGIN and SHIFTS say is worked out when it is asked for, not at each byte typed. */
    private boolean stale = true;
    private boolean planStale = true;

    public MiddlePlank() {
        texts[PLANK_TEXT] = new Text(MOST_PLANKS);
        texts[CROSSER_TEXT] = new Text(MOST_CROSSER_BYTES);
        texts[CROSSING_TEXT] = new Text(MOST_CROSSINGS);
        for (int s = 0; s < SHEETS; s++) {
            sheets[s] = new Sheet();
        }
    }

    // ---- planks, crossers, crossings

    public int type(int text, int b) {
        Text typed = textAt(text);
        if (typed == null || !within(b, 0, 255)) {
            return BAD;
        }
        if (typed.isFull()) {
            return FULL;
        }
        typed.append(b);
        stale = true;
        return typed.length;
    }

    public int wipe(int text) {
        Text wiped = textAt(text);
        if (wiped == null) {
            return BAD;
        }
        int had = wiped.length;
        wiped.length = 0;
        stale = true;
        return had;
    }

    public int undo(int text) {
        Text undone = textAt(text);
        if (undone == null) {
            return BAD;
        }
        if (undone.length == 0) {
            return NOT;
        }
        undone.length--;
        stale = true;
        return undone.length;
    }

    public int fault(int text) {
        Text asked = textAt(text);
        return asked == null ? BAD : faultOf(text, asked);
    }

    public int plank(int plank) {
        if (!within(plank, 0, MOST_PLANKS - 1)) {
            return BAD;
        }
        freshen();
        if (!bridge.hasPlank(plank)) {
            return NONE;
        }
        return bridge.isRotten(plank) ? 1 : 0;
    }

    public int crosser(int crosser, int what) {
        freshen();
        Crosser asked = crossers.at(crosser);
        if (asked == null) {
            return BAD;
        }
        switch (what) {
            case 0: return asked.kind;
            case 1: return asked.weight;
            case 2: return asked.end;
            case 3: return asked.leap;
            default: return BAD;
        }
    }

    public int crossing(int i) {
        if (!within(i, 0, MOST_CROSSINGS - 1)) {
            return BAD;
        }
        freshen();
        return crossings.whoAt(i);
    }

    public int set(int what, int v) {
        if (what == 0 && within(v, 0, HIGHEST_RIVER)) {
            int was = bridge.river;
            bridge.river = v;
            stale = true;
            return was;
        }
        if (what == 1 && within(v, 0, MOST_PLANKS - 1)) {
            int was = bridge.begin;
            bridge.begin = v;
            stale = true;
            return was;
        }
        return BAD;
    }

    public int shift(int kind, int v) {
        if (!within(kind, 0, SHIFTED_KINDS - 1) || !within(v, -WIDEST_SHIFT, WIDEST_SHIFT)) {
            return BAD_BESIDE_ANY_NUMBER;
        }
        int was = bridge.shifts[kind];
        bridge.shifts[kind] = v;
        stale = true;
        return was;
    }

    // ---- crossings

    public int gap(int crossings) {
        freshen();
        return isNumberOfCrossings(crossings) ? gaps[crossings] : BAD;
    }

    public int comes(int crossing, int what) {
        freshen();
        if (!within(crossing, 0, crossings.count - 1)) {
            return BAD;
        }
        Crosser who = crossers.at(crossings.whoAt(crossing));
        int gap = gaps[crossing];
        switch (what) {
            case 0: return bridge.outcome(who, gap);
            case 1: return bridge.toll(who, gap);
            case 2: return bridge.longestRow(who, gap);
            default: return BAD;
        }
    }

    public int times(int crosser, int what) {
        freshen();
        if (crossers.at(crosser) == null || !within(what, 0, 1)) {
            return BAD;
        }
        int counted = what == 0 ? CROSSES : TURNS_BACK;
        int times = 0;
        for (int i = 0; i < crossings.count; i++) {
            if (crossings.whoAt(i) == crosser && outcomeOfCrossing(i) == counted) {
                times++;
            }
        }
        return times;
    }

    public int taken(int crossings) {
        freshen();
        return isNumberOfCrossings(crossings) ? tollsBehind(crossings) : BAD;
    }

    public int stuck() {
        freshen();
        for (int i = 0; i < crossings.count; i++) {
            if (outcomeOfCrossing(i) == TURNS_BACK) {
                return i;
            }
        }
        return NONE;
    }

    public int worn() {
        freshen();
        countVisits();
        int worn = NONE;
        int most = 0;
        for (int plank = 0; plank < bridge.planks; plank++) {
            if (visits[plank] > most) {
                most = visits[plank];
                worn = plank;
            }
        }
        return worn;
    }

    // ---- plans

    public int order(int what) {
        if (!within(what, 0, MOST_CROSSERS + 1)) {
            return BAD;
        }
        freshenPlan();
        switch (what) {
            case 0: return plan.crossing;
            case 1: return plan.tolls;
            default: return plan.whoAt(what - 2);
        }
    }

    public int ahead(int crosser) {
        freshen();
        Crosser late = crossers.at(crosser);
        if (late == null) {
            return BAD;
        }
        int gap = gapBehindAll();
        if (bridge.outcome(late, gap) == CROSSES) {
            return NOT;
        }
        for (int other = 0; other < crossers.count; other++) {
            int moved = bridge.gapBehind(crossers.at(other), gap, bridge.shifts);
            if (other != crosser && bridge.outcome(late, moved) == CROSSES) {
                return other;
            }
        }
        return NONE;
    }

    public int often(int crosser, int other) {
        freshen();
        Crosser late = crossers.at(crosser);
        Crosser early = crossers.at(other);
        if (late == null || early == null || crosser == other) {
            return BAD;
        }
        int gap = gapBehindAll();
        for (int times = 0; times <= MOST_OFTEN; times++) {
            if (bridge.outcome(late, gap) == CROSSES) {
                return times;
            }
            gap = bridge.gapBehind(early, gap, bridge.shifts);
        }
        return NONE;
    }

    // ---- seen, chance, weeks

    public int seen(int crossings, int plank) {
        if (!Sightings.isPossible(crossings, plank)) {
            return BAD;
        }
        if (sightings.isFull()) {
            return FULL;
        }
        sightings.add(crossings, plank);
        return sightings.count;
    }

    public int forget() {
        int had = sightings.count;
        sightings.count = 0;
        return had;
    }

    public int read(int s) {
        Sheet sheet = sheetAt(s);
        if (sheet == null) {
            return BAD;
        }
        if (sheet.lost) {
            return finding(NULL);
        }
        int pairs = 0;
        while (2 * pairs + 1 < sheet.length && !sightings.isFull()
                && Sightings.isPossible(sheet.itemAt(2 * pairs), sheet.itemAt(2 * pairs + 1))) {
            sightings.add(sheet.itemAt(2 * pairs), sheet.itemAt(2 * pairs + 1));
            pairs++;
        }
        return pairs;
    }

    public int rule(int kind) {
        if (!within(kind, 0, SHIFTED_KINDS - 1)) {
            return BAD;
        }
        freshen();
        System.arraycopy(bridge.shifts, 0, trialShifts, 0, SHIFTED_KINDS);
        int bits = 0;
        for (int v = -WIDEST_SHIFT; v <= WIDEST_SHIFT; v++) {
            trialShifts[kind] = v;
            if (comesOutAsSeen(bridge.firstGap(), trialShifts)) {
                bits |= 1 << (v + WIDEST_SHIFT);
            }
        }
        return bits;
    }

    public int began() {
        freshen();
        int bits = 0;
        for (int plank = 0; plank < bridge.planks; plank++) {
            if (comesOutAsSeen(plank, bridge.shifts)) {
                bits |= 1 << plank;
            }
        }
        return bits;
    }

    /**
     * Behind 0 CROSSINGS the GAP is on each PLANK by that PLANK alone, so the greatest number
     * is 1 there (0 if BEGAN is empty); behind no other number of CROSSINGS can it be less.
     */
    public int ask() {
        return 0;
    }

    public long maybe(int c, int plank, int what) {
        freshen();
        if (!within(c, 0, SIXTEENTHS) || !bridge.hasPlank(plank) || !within(what, 0, 1)
                || crossings.count > MOST_BY_CHANCE) {
            return BAD_LONG;
        }
        spreadChances(c);
        long above = chances[plank];
        // Below stands a power of two, so halving brings the FRACTION to lowest terms.
        int halvings = SIXTEENTH_BITS * crossings.count;
        while (halvings > 0 && (above & 1) == 0) {
            above >>= 1;
            halvings--;
        }
        return what == 0 ? above : 1L << halvings;
    }

    public int week(int seed, int n, int what) {
        if (!within(n, 1, LONGEST_WEEK) || !within(what, 0, 1)) {
            return BAD;
        }
        freshen();
        int gap = gapBehindAll();
        int crossed = 0;
        int lot = seed;
        for (int i = 0; i < n && crossers.count > 0; i++) {
            lot = 1103515245 * lot + 12345;
            Crosser who = crossers.at((lot >>> 16) % crossers.count);
            if (bridge.outcome(who, gap) == CROSSES) {
                crossed++;
            }
            gap = bridge.gapBehind(who, gap, bridge.shifts);
        }
        return what == 0 ? gap : crossed;
    }

    // ---- sheets

    public int sheet(int s, int form, int n) {
        Sheet sheet = sheetAt(s);
        if (sheet == null || !within(form, 0, FORMS - 1) || n > MOST_ITEMS) {
            return BAD;
        }
        if (n < 0) {
            return finding(SIZE);
        }
        sheet.renew(form, n);
        return n;
    }

    public int lose(int s) {
        Sheet sheet = sheetAt(s);
        if (sheet == null) {
            return BAD;
        }
        if (sheet.lost) {
            return finding(NULL);
        }
        sheet.lost = true;
        return sheet.length;
    }

    public int lay(int s, int form, int i, int v) {
        Sheet sheet = sheetAt(s);
        if (sheet == null || !within(form, 0, FORMS - 1)) {
            return BAD;
        }
        int found = sheet.findingAt(form, i);
        if (found != 0) {
            return finding(found);
        }
        sheet.put(i, v);
        return 1;
    }

    public int get(int s, int form, int i) {
        Sheet sheet = sheetAt(s);
        if (sheet == null || !within(form, 0, FORMS - 1)) {
            return LEAST_INT;
        }
        int found = sheet.findingAt(form, i);
        if (found != 0) {
            finding(found);
            return LEAST_INT;
        }
        return sheet.itemAt(i);
    }

    public int copy(int s, int i, int t, int j, int n) {
        Sheet from = sheetAt(s);
        Sheet to = sheetAt(t);
        if (from == null || to == null) {
            return BAD;
        }
        if (from.lost || to.lost) {
            return finding(NULL);
        }
        if (from.form != to.form) {
            return finding(STORE);
        }
        if (!from.hasItems(i, n) || !to.hasItems(j, n)) {
            return finding(INDEX);
        }
        System.arraycopy(from.items, i, to.items, j, n);
        return 1;
    }

    public int write(int s) {
        Sheet sheet = sheetAt(s);
        if (sheet == null) {
            return BAD;
        }
        if (sheet.lost) {
            return finding(NULL);
        }
        freshen();
        int written = Math.min(sheet.length, crossings.count + 1);
        for (int i = 0; i < written; i++) {
            sheet.put(i, gaps[i]);
        }
        return written;
    }

    public int count(int what) {
        freshen();
        switch (what) {
            case 0: return bridge.planks;
            case 1: return crossers.count;
            case 2: return crossings.count;
            case 3: return texts[PLANK_TEXT].length;
            case 4: return texts[CROSSER_TEXT].length;
            case 5: return texts[CROSSING_TEXT].length;
            case 6: return tollsBehind(crossings.count);
            case 7: return sightings.count;
            case 8: return latestFinding;
            default: return BAD;
        }
    }

    public long digest() {
        freshen();
        long h = 17;
        for (int what = 0; what <= 7; what++) {
            h = 31 * h + count(what);
        }
        for (int text = 0; text < texts.length; text++) {
            h = 31 * h + fault(text);
        }
        h = digestPlanks(h);
        h = digestCrossers(h);
        h = digestCrossings(h);
        h = 31 * h + stuck();
        h = 31 * h + worn();
        for (int what = 0; what <= 3; what++) {
            h = 31 * h + order(what);
        }
        for (int kind = 0; kind < SHIFTED_KINDS; kind++) {
            h = 31 * h + rule(kind);
        }
        h = 31 * h + began();
        h = 31 * h + ask();
        h = 31 * h + week(7, 30, 0);
        return 31 * h + week(7, 30, 1);
    }

    private long digestPlanks(long before) {
        long h = before;
        for (int plank = 0; plank < bridge.planks; plank++) {
            h = 31 * h + plank(plank);
            h = 31 * h + maybe(5, plank, 0);
            h = 31 * h + maybe(5, plank, 1);
        }
        return h;
    }

    private long digestCrossers(long before) {
        long h = before;
        for (int who = 0; who < crossers.count; who++) {
            for (int what = 0; what <= 3; what++) {
                h = 31 * h + crosser(who, what);
            }
            h = 31 * h + times(who, 0);
            h = 31 * h + times(who, 1);
            h = 31 * h + ahead(who);
            h = 31 * h + often(who, 0);
        }
        return h;
    }

    private long digestCrossings(long before) {
        long h = before;
        for (int i = 0; i < crossings.count; i++) {
            h = 31 * h + crossing(i);
            for (int what = 0; what <= 2; what++) {
                h = 31 * h + comes(i, what);
            }
        }
        for (int number = 0; number <= crossings.count; number++) {
            h = 31 * h + gap(number);
            h = 31 * h + taken(number);
        }
        return h;
    }

    // ---- what the texts say

    private static boolean within(int v, int least, int most) {
        return v >= least && v <= most;
    }

    private Text textAt(int text) {
        return within(text, 0, texts.length - 1) ? texts[text] : null;
    }

    private static int placeOf(int sign, char[] signs) {
        for (int i = 0; i < signs.length; i++) {
            if (signs[i] == sign) {
                return i;
            }
        }
        return NONE;
    }

    private static char[] signsFor(int text, int place) {
        if (text == PLANK_TEXT) {
            return PLANK_SIGNS;
        }
        if (text == CROSSING_TEXT) {
            return CROSSING_SIGNS;
        }
        switch (place % CROSSER_BYTES) {
            case 0: return KIND_SIGNS;
            case 1: return WEIGHT_SIGNS;
            case 2: return END_SIGNS;
            case 3: return LEAP_SIGNS;
            default: return BETWEEN_SIGNS;
        }
    }

    /** A ninth CROSSER needs no look: its first byte would stand behind the most that the text holds. */
    private static int faultOf(int text, Text asked) {
        for (int i = 0; i < asked.length; i++) {
            if (placeOf(asked.at(i), signsFor(text, i)) == NONE) {
                return i;
            }
        }
        boolean ended = text != CROSSER_TEXT || asked.length == 0
                || asked.length % CROSSER_BYTES == CROSSER_BYTES - 1;
        return ended ? NONE : asked.length;
    }

    private static int lengthWithoutFault(int text, Text asked) {
        return faultOf(text, asked) == NONE ? asked.length : 0;
    }

    private void freshen() {
        if (!stale) {
            return;
        }
        stale = false;
        planStale = true;
        Text planks = texts[PLANK_TEXT];
        bridge.take(planks, lengthWithoutFault(PLANK_TEXT, planks));
        Text folk = texts[CROSSER_TEXT];
        crossers.take(folk, lengthWithoutFault(CROSSER_TEXT, folk));
        Text row = texts[CROSSING_TEXT];
        crossings.take(row, lengthWithoutFault(CROSSING_TEXT, row));
        crossings.follow(bridge, crossers, bridge.firstGap(), bridge.shifts, gaps);
    }

    private void freshenPlan() {
        freshen();
        if (planStale) {
            planStale = false;
            plan.make(bridge, crossers);
        }
    }

    // ---- what comes of the crossings

    private boolean isNumberOfCrossings(int number) {
        return within(number, 0, crossings.count);
    }

    private int gapBehindAll() {
        return gaps[crossings.count];
    }

    private int outcomeOfCrossing(int i) {
        return bridge.outcome(crossers.at(crossings.whoAt(i)), gaps[i]);
    }

    private int tollsBehind(int number) {
        int tolls = 0;
        for (int i = 0; i < number; i++) {
            tolls += bridge.toll(crossers.at(crossings.whoAt(i)), gaps[i]);
        }
        return tolls;
    }

    private void countVisits() {
        for (int plank = 0; plank < MOST_PLANKS; plank++) {
            visits[plank] = 0;
        }
        for (int number = 0; number <= crossings.count; number++) {
            if (bridge.hasPlank(gaps[number])) {
                visits[gaps[number]]++;
            }
        }
    }

    private boolean comesOutAsSeen(int firstGap, int[] shifts) {
        crossings.follow(bridge, crossers, firstGap, shifts, trialGaps);
        return sightings.agreeWith(trialGaps, crossings.count);
    }

    /** Leaves in chances, for each PLANK, in how many of the 16 to the CROSSINGS cases the GAP is there. */
    private void spreadChances(int c) {
        for (int plank = 0; plank < bridge.planks; plank++) {
            chances[plank] = plank == bridge.firstGap() ? 1 : 0;
        }
        for (int i = 0; i < crossings.count; i++) {
            spreadOver(crossers.at(crossings.whoAt(i)), c);
        }
    }

    private void spreadOver(Crosser who, int c) {
        for (int plank = 0; plank < bridge.planks; plank++) {
            chancesBehind[plank] = chances[plank] * (SIXTEENTHS - c);
        }
        for (int plank = 0; plank < bridge.planks; plank++) {
            int moved = bridge.gapBehind(who, plank, bridge.shifts);
            if (bridge.hasPlank(moved)) {
                chancesBehind[moved] += chances[plank] * c;
            }
        }
        System.arraycopy(chancesBehind, 0, chances, 0, MOST_PLANKS);
    }

    // ---- what is found at sheets

    private Sheet sheetAt(int s) {
        return within(s, 0, SHEETS - 1) ? sheets[s] : null;
    }

    private int finding(int number) {
        latestFinding = number;
        return -10 - number;
    }

    private static final class Text {
        private final int[] bytes;
        private int length;

        Text(int limit) {
            bytes = new int[Math.max(limit, 0)];
        }

        boolean isFull() {
            return length >= bytes.length;
        }

        void append(int b) {
            if (!isFull()) {
                bytes[length] = b;
                length++;
            }
        }

        int at(int place) {
            return place >= 0 && place < length ? bytes[place] : NONE;
        }
    }

    private static final class Crosser {
        private int kind;
        private int weight;
        private int load;
        private int end;
        private int leap;

        void take(Text text, int from) {
            kind = placeOf(text.at(from), KIND_SIGNS);
            weight = 1 + placeOf(text.at(from + 1), WEIGHT_SIGNS);
            load = weight >= HEAVY_WEIGHT ? HEAVY : LIGHT;
            end = placeOf(text.at(from + 2), END_SIGNS);
            leap = placeOf(text.at(from + 3), LEAP_SIGNS);
        }

        /** A bride is thrown, not by a SHIFT. */
        int shiftBy(int[] shifts) {
            return kind >= 0 && kind < shifts.length ? shifts[kind] : 0;
        }
    }

    private static final class Crossers {
        private final Crosser[] all = new Crosser[MOST_CROSSERS];
        private int count;

        Crossers() {
            for (int i = 0; i < MOST_CROSSERS; i++) {
                all[i] = new Crosser();
            }
        }

        void take(Text text, int length) {
            count = Math.min((length + 1) / CROSSER_BYTES, MOST_CROSSERS);
            for (int i = 0; i < count; i++) {
                all[i].take(text, i * CROSSER_BYTES);
            }
        }

        /** Null where there is no such CROSSER. */
        Crosser at(int i) {
            return within(i, 0, count - 1) ? all[i] : null;
        }
    }

    private static final class Bridge {
        private int river = 5;
        private int begin = 9;
        private final int[] shifts = {1, 2, -1, 0};
        private int planks;
        private final boolean[] rotten = new boolean[MOST_PLANKS];
        /** By load and GAP: how many rows of HOLES there are, and how long the longest is. */
        private final int[] rows = new int[2 * MOST_PLANKS];
        private final int[] longest = new int[2 * MOST_PLANKS];

        void take(Text text, int length) {
            planks = Math.min(length, MOST_PLANKS);
            for (int plank = 0; plank < planks; plank++) {
                rotten[plank] = text.at(plank) == 'r';
            }
            for (int gap = 0; gap < planks; gap++) {
                measure(LIGHT, gap);
                measure(HEAVY, gap);
            }
        }

        private void measure(int load, int gap) {
            int number = 0;
            int most = 0;
            int length = 0;
            for (int plank = 0; plank < planks; plank++) {
                length = isHole(plank, load, gap) ? length + 1 : 0;
                most = Math.max(most, length);
                if (length == 1) {
                    number++;
                }
            }
            rows[load * MOST_PLANKS + gap] = number;
            longest[load * MOST_PLANKS + gap] = most;
        }

        private boolean isHole(int plank, int load, int gap) {
            if (plank == gap || load == HEAVY && rotten[plank]) {
                return true;
            }
            int nextEast = gap + 1 < planks ? gap + 1 : 0;
            return river >= FULL_RIVER && plank == nextEast;
        }

        boolean hasPlank(int plank) {
            return within(plank, 0, planks - 1);
        }

        boolean isRotten(int plank) {
            return hasPlank(plank) && rotten[plank];
        }

        int firstGap() {
            return planks == 0 ? NONE : begin % planks;
        }

        int outcome(Crosser who, int gap) {
            if (who == null || river <= NO_RIVER || gap < 0 || gap >= planks) {
                return IDLE;
            }
            return longest[who.load * MOST_PLANKS + gap] > who.leap ? TURNS_BACK : CROSSES;
        }

        int toll(Crosser who, int gap) {
            if (outcome(who, gap) != CROSSES || who.kind == BRIDE) {
                return 0;
            }
            return rows[who.load * MOST_PLANKS + gap];
        }

        int longestRow(Crosser who, int gap) {
            return outcome(who, gap) == IDLE ? 0 : longest[who.load * MOST_PLANKS + gap];
        }

        int gapBehind(Crosser who, int gap, int[] shifts) {
            if (outcome(who, gap) != CROSSES) {
                return gap;
            }
            if (who.kind == BRIDE) {
                return planks - 1 - gap;
            }
            int by = who.shiftBy(shifts);
            return Math.floorMod(who.end == WEST ? gap + by : gap - by, planks);
        }
    }

    private static final class Crossings {
        private final int[] who = new int[MOST_CROSSINGS];
        private int count;

        void take(Text text, int length) {
            count = Math.min(length, MOST_CROSSINGS);
            for (int i = 0; i < count; i++) {
                who[i] = placeOf(text.at(i), CROSSING_SIGNS);
            }
        }

        int whoAt(int i) {
            return within(i, 0, count - 1) ? who[i] : NONE;
        }

        /** Leaves in gaps where the GAP is behind 0 CROSSINGS to all. */
        void follow(Bridge bridge, Crossers crossers, int firstGap, int[] shifts, int[] gaps) {
            int gap = firstGap;
            for (int i = 0; i <= count && i < gaps.length; i++) {
                gaps[i] = gap;
                gap = bridge.gapBehind(crossers.at(whoAt(i)), gap, shifts);
            }
        }
    }

    /** Finds ORDER by the best that is left to each set of CROSSERS from each GAP. */
    private static final class Plan {
        /** More than the TOLLS of all CROSSERS together, so that one more who CROSSES weighs more. */
        private static final int WORTH_OF_CROSSING = 1000;

        private final int[] best = new int[(1 << MOST_CROSSERS) * MOST_PLANKS];
        private final int[] worth = new int[MOST_CROSSERS * MOST_PLANKS];
        private final int[] moved = new int[MOST_CROSSERS * MOST_PLANKS];
        private final int[] row = new int[MOST_CROSSERS];
        private int places;
        private int count;
        private int crossing;
        private int tolls;

        void make(Bridge bridge, Crossers crossers) {
            // With no PLANKS all are IDLE, as if at one place from which nothing moves.
            places = Math.max(bridge.planks, 1);
            count = crossers.count;
            for (int who = 0; who < count; who++) {
                weigh(bridge, crossers.at(who), who);
            }
            findBest();
            followBest(bridge, crossers, Math.max(bridge.firstGap(), 0));
        }

        int whoAt(int i) {
            return within(i, 0, count - 1) ? row[i] : NONE;
        }

        private void weigh(Bridge bridge, Crosser crosser, int who) {
            for (int gap = 0; gap < places; gap++) {
                boolean crosses = bridge.outcome(crosser, gap) == CROSSES;
                int cell = who * MOST_PLANKS + gap;
                worth[cell] = crosses ? WORTH_OF_CROSSING - bridge.toll(crosser, gap) : 0;
                moved[cell] = bridge.gapBehind(crosser, gap, bridge.shifts);
            }
        }

        /** Larger sets of those who have come stand ahead, as each set leans on them. */
        private void findBest() {
            int everybody = (1 << count) - 1;
            for (int gap = 0; gap < places; gap++) {
                best[everybody * MOST_PLANKS + gap] = 0;
            }
            for (int come = everybody - 1; come >= 0; come--) {
                for (int gap = 0; gap < places; gap++) {
                    best[come * MOST_PLANKS + gap] = bestOf(come, gap);
                }
            }
        }

        private int bestOf(int come, int gap) {
            int most = 0;
            for (int who = 0; who < count; who++) {
                if ((come & 1 << who) == 0) {
                    most = Math.max(most, worthOf(come, gap, who));
                }
            }
            return most;
        }

        private int worthOf(int come, int gap, int who) {
            int cell = who * MOST_PLANKS + gap;
            return worth[cell] + best[(come | 1 << who) * MOST_PLANKS + moved[cell]];
        }

        private void followBest(Bridge bridge, Crossers crossers, int firstGap) {
            crossing = 0;
            tolls = 0;
            int come = 0;
            int gap = firstGap;
            for (int i = 0; i < count; i++) {
                int who = leastOfBest(come, gap);
                row[i] = who;
                crossing += bridge.outcome(crossers.at(who), gap) == CROSSES ? 1 : 0;
                tolls += bridge.toll(crossers.at(who), gap);
                come |= 1 << who;
                gap = moved[who * MOST_PLANKS + gap];
            }
        }

        private int leastOfBest(int come, int gap) {
            for (int who = 0; who < count; who++) {
                if ((come & 1 << who) == 0 && worthOf(come, gap, who) == best[come * MOST_PLANKS + gap]) {
                    return who;
                }
            }
            return 0;
        }
    }

    private static final class Sightings {
        private final int[] behind = new int[MOST_SEEN];
        private final int[] planks = new int[MOST_SEEN];
        private int count;

        static boolean isPossible(int number, int plank) {
            return within(number, 0, MOST_CROSSINGS) && within(plank, 0, MOST_PLANKS - 1);
        }

        boolean isFull() {
            return count >= MOST_SEEN;
        }

        void add(int number, int plank) {
            if (!isFull()) {
                behind[count] = number;
                planks[count] = plank;
                count++;
            }
        }

        boolean agreeWith(int[] gaps, int all) {
            for (int i = 0; i < count; i++) {
                int number = behind[i];
                if (number > all || number >= gaps.length || gaps[number] != planks[i]) {
                    return false;
                }
            }
            return true;
        }
    }

    private static final class Sheet {
        private final int[] items = new int[MOST_ITEMS];
        private boolean lost = true;
        private int form;
        private int length;

        void renew(int newForm, int n) {
            lost = false;
            form = newForm;
            length = Math.min(n, MOST_ITEMS);
            for (int i = 0; i < length; i++) {
                items[i] = 0;
            }
        }

        boolean hasItems(int from, int n) {
            return from >= 0 && n >= 0 && from <= length - n;
        }

        /** What is found when item i is treated as of a FORM; 0: nothing. */
        int findingAt(int asked, int i) {
            if (lost) {
                return NULL;
            }
            if (asked != form) {
                return CAST;
            }
            return hasItems(i, 1) ? 0 : INDEX;
        }

        int itemAt(int i) {
            return hasItems(i, 1) ? items[i] : 0;
        }

        void put(int i, int v) {
            if (hasItems(i, 1)) {
                items[i] = lowestBits(v);
            }
        }

        private int lowestBits(int v) {
            if (form == BYTES) {
                return (byte) v;
            }
            return form == SHORTS ? (short) v : v;
        }
    }
}
