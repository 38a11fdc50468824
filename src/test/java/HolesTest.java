/** "Terms": RIVER, SHIFT, BEGIN, HOLES, who CROSSES and how the GAP moves, sentence by sentence. */
public final class HolesTest {
    private static final Check CHECK = new Check("HolesTest");
    private static final int NONE = MiddlePlank.NONE;
    private static final int IDLE = 0, CROSSES = 1, TURNS_BACK = 2;
    private static final String SOUND = "...................";
    private static final String KINDS = "phcgb";

    public static void main(String[] args) {
        riverIs0To9();
        shiftIsMinus9To9();
        shiftGoesTheWayItWasCrossed();
        beginIsModuloPlanks();
        gapIsAHole();
        rottenForAWeightOf6();
        nextToTheEastAtARiverOf7();
        behindTheLastOneTheFirst();
        fewPlanksAtFullRiver();
        idleAtARiverOf1();
        idleWithNoPlanks();
        idleIfThereIsNoSuchCrosser();
        turnsBackAtALongerRow();
        turnsBackAtAnyRow();
        tollIsARowEach();
        brideIsCarried();
        brideIsThrown();
        onlyWhoCrossesMovesTheGap();
        CHECK.end();
    }

    private static void come(String of, MiddlePlank x, int i, int what, int toll, int longest) {
        CHECK.due(of + ": what comes", x.comes(i, 0), what);
        CHECK.due(of + ": TOLL", x.comes(i, 1), toll);
        CHECK.due(of + ": longest row", x.comes(i, 2), longest);
    }

    /** "RIVER (0 to 9; 5 at first)". */
    private static void riverIs0To9() {
        MiddlePlank x = new MiddlePlank();
        int was = 5;
        for (int river = 0; river <= 9; river++) {
            CHECK.due("RIVER " + river, x.set(0, river), was);
            was = river;
        }
        CHECK.due("RIVER 10", x.set(0, 10), MiddlePlank.BAD);
        CHECK.due("RIVER as it was", x.set(0, 0), 9);
        CHECK.due("BEGIN is another one", x.set(1, 0), 9);
    }

    /** "SHIFT of a kind (0 p, 1 h, 2 c, 3 g: -9 to 9; 1, 2, -1, 0 at first)". */
    private static void shiftIsMinus9To9() {
        int[] was = {1, 2, -1, 0};
        MiddlePlank x = new MiddlePlank();
        for (int shift = -9; shift <= 9; shift++) {
            for (int kind = 0; kind < 4; kind++) {
                CHECK.due("SHIFT " + shift + " of " + kind, x.shift(kind, shift), was[kind]);
                was[kind] = shift;
            }
        }
        MiddlePlank first = Check.bridge(SOUND, "p1w1;h1w1;c1w1;g1w1", "abcd");
        int[] gaps = {9, 10, 12, 11, 11};
        for (int number = 0; number <= 4; number++) {
            CHECK.due("SHIFTS at first, behind " + number, first.gap(number), gaps[number]);
        }
    }

    /**
     * "by how many PLANKS the GAP goes on, the way it was crossed"; "east, if it comes from the west, else west;
     * round the end, modulo as many as there are".
     */
    private static void shiftGoesTheWayItWasCrossed() {
        for (int n = 1; n <= 19; n++) {
            for (int kind = 0; kind < 4; kind++) {
                String who = KINDS.charAt(kind) + "1w1;" + KINDS.charAt(kind) + "1e1";
                MiddlePlank fromWest = Check.bridge(SOUND.substring(0, n), who, "a");
                MiddlePlank fromEast = Check.bridge(SOUND.substring(0, n), who, "b");
                for (int shift = -9; shift <= 9; shift++) {
                    fromWest.shift(kind, shift);
                    fromEast.shift(kind, shift);
                    String of = n + " PLANKS, kind " + kind + " by " + shift;
                    CHECK.due(of + " from the west", fromWest.gap(1), (9 % n + shift + 9 * n) % n);
                    CHECK.due(of + " from the east", fromEast.gap(1), (9 % n - shift + 9 * n) % n);
                }
            }
        }
    }

    /** "BEGIN (0 to 18; 9 at first): the GAP is at first on PLANK BEGIN modulo as many as there are." */
    private static void beginIsModuloPlanks() {
        for (int n = 0; n <= 19; n++) {
            MiddlePlank x = Check.bridge(SOUND.substring(0, n), "", "");
            CHECK.due(n + " PLANKS, BEGIN at first", x.gap(0), n == 0 ? NONE : 9 % n);
            int was = 9;
            for (int begin = 0; begin <= 18; begin++) {
                CHECK.due(n + " PLANKS, BEGIN " + begin, x.set(1, begin), was);
                CHECK.due(n + " PLANKS, the GAP from " + begin, x.gap(0), n == 0 ? NONE : begin % n);
                was = begin;
            }
        }
        MiddlePlank x = Check.bridge("....", "", "");
        x.set(1, 18);
        Check.type(x, 0, "...............");
        CHECK.due("BEGIN is kept, not the PLANK", x.gap(0), 18);
    }

    /** "HOLES for one who comes: the GAP". */
    private static void gapIsAHole() {
        for (int begin = 0; begin < 19; begin++) {
            MiddlePlank x = Check.bridge(SOUND, "p9w1;p9w0", "ba");
            x.set(1, begin);
            come("the GAP at " + begin + ", LEAPS 0", x, 0, TURNS_BACK, 0, 1);
            come("the GAP at " + begin + ", LEAPS 1", x, 1, CROSSES, 1, 1);
        }
        MiddlePlank x = Check.bridge("..r..", "p1w1;p9w1", "ab");
        x.set(1, 2);
        x.shift(0, 0);
        come("the GAP on a rotten PLANK, light", x, 0, CROSSES, 1, 1);
        come("the GAP on a rotten PLANK, heavy", x, 1, CROSSES, 1, 1);
    }

    /** "and all that are rotten, for a WEIGHT of 6 or more", of whatever kind, from whichever END. */
    private static void rottenForAWeightOf6() {
        for (int weight = 1; weight <= 9; weight++) {
            for (char kind : KINDS.toCharArray()) {
                for (char end : "we".toCharArray()) {
                    MiddlePlank x = Check.bridge("rr...r", kind + "" + weight + end + "9", "a");
                    x.set(1, 3);
                    boolean heavy = weight >= 6;
                    int toll = kind == 'b' ? 0 : heavy ? 3 : 1;
                    come("rotten ones for " + kind + weight + end, x, 0, CROSSES, toll, heavy ? 2 : 1);
                }
            }
        }
    }

    /** "at a RIVER of 7 or more the next PLANK to the east, too", from whichever END one comes. */
    private static void nextToTheEastAtARiverOf7() {
        for (char end : "we".toCharArray()) {
            for (int river = 2; river <= 9; river++) {
                MiddlePlank x = Check.bridge("r....r", "g6" + end + "9;g5" + end + "9", "ab");
                boolean full = river >= 7;
                x.set(0, river);
                x.set(1, 4);
                come("RIVER " + river + ", east beside a rotten one", x, 0, CROSSES, 2, 2);
                come("RIVER " + river + ", light", x, 1, CROSSES, 1, full ? 2 : 1);
                x.set(1, 3);
                come("RIVER " + river + ", on to a rotten one", x, 0, CROSSES, full ? 2 : 3, full ? 3 : 1);
                x.set(1, 2);
                come("RIVER " + river + ", none to the west", x, 0, CROSSES, 3, full ? 2 : 1);
            }
        }
    }

    /** "(behind the last one the first)": a HOLE at each end, two rows, not one beside the other. */
    private static void behindTheLastOneTheFirst() {
        MiddlePlank x = Check.bridge("....r", "g1w1;g6e1;g1e0", "abc");
        x.set(1, 4);
        come("RIVER 5, the last one, light", x, 0, CROSSES, 1, 1);
        x.set(0, 7);
        come("the first one too, light", x, 0, CROSSES, 2, 1);
        come("the first one too, heavy", x, 1, CROSSES, 2, 1);
        come("the first one too, LEAPS 0", x, 2, TURNS_BACK, 0, 1);
        MiddlePlank y = Check.bridge("r.r.", "g6w2", "a");
        y.set(1, 3);
        y.set(0, 9);
        come("the first one is rotten anyway", y, 0, CROSSES, 2, 2);
    }

    /** "(behind the last one the first)", where that is the GAP itself, or beside it. */
    private static void fewPlanksAtFullRiver() {
        MiddlePlank one = Check.bridge(".", "p1w1;p1w0", "ab");
        one.set(0, 9);
        come("one PLANK", one, 0, CROSSES, 1, 1);
        come("one PLANK, LEAPS 0", one, 1, TURNS_BACK, 0, 1);
        CHECK.due("one PLANK, the GAP stays on it", one.gap(2), 0);
        for (int begin = 0; begin <= 1; begin++) {
            MiddlePlank two = Check.bridge("..", "p1w2;p1w1", "ba");
            two.set(0, 7);
            two.set(1, begin);
            come("two PLANKS from " + begin + ", LEAPS 1", two, 0, TURNS_BACK, 0, 2);
            come("two PLANKS from " + begin + ", LEAPS 2", two, 1, CROSSES, 1, 2);
        }
    }

    /** "At a RIVER of 1 or less .. a CROSSING is IDLE: nobody comes." */
    private static void idleAtARiverOf1() {
        for (int river = 0; river <= 9; river++) {
            MiddlePlank x = Check.bridge("....", "p1w9;p1w0", "ab");
            x.set(0, river);
            boolean idle = river <= 1;
            CHECK.due("RIVER " + river, x.comes(0, 0), idle ? IDLE : CROSSES);
            CHECK.due("RIVER " + river + ", LEAPS 0", x.comes(1, 0), idle ? IDLE : TURNS_BACK);
            CHECK.due("RIVER " + river + ", longest row", x.comes(1, 2), idle ? 0 : river >= 7 ? 2 : 1);
            CHECK.due("RIVER " + river + ", the GAP", x.gap(2), idle ? 1 : 2);
            CHECK.due("RIVER " + river + ", TOLLS", x.taken(2), idle ? 0 : 1);
            CHECK.due("RIVER " + river + ", how many CROSS", x.order(0), idle ? 0 : 1);
        }
    }

    /** "with no PLANKS .. a CROSSING is IDLE". */
    private static void idleWithNoPlanks() {
        for (int river = 0; river <= 9; river++) {
            MiddlePlank x = Check.bridge("", "p1w9;b9e0", "ab");
            x.set(0, river);
            come("no PLANKS", x, 0, IDLE, 0, 0);
            come("no PLANKS, a bride", x, 1, IDLE, 0, 0);
            CHECK.due("no PLANKS, no GAP", x.gap(2), NONE);
        }
    }

    /** "or if there is no such CROSSER, a CROSSING is IDLE". */
    private static void idleIfThereIsNoSuchCrosser() {
        String eight = "p1w9;p1w9;p1w9;p1w9;p1w9;p1w9;p1w9;p1w9";
        for (int crossers = 0; crossers <= 8; crossers++) {
            String there = eight.substring(0, Math.max(5 * crossers - 1, 0));
            MiddlePlank x = Check.bridge(SOUND, there, "abcdefgh");
            for (int i = 0; i < 8; i++) {
                int come = i < crossers ? 1 : 0;
                come(crossers + " CROSSERS, of " + i, x, i, come, come, come);
            }
            CHECK.due(crossers + " CROSSERS, the GAP", x.gap(8), 9 + crossers);
        }
    }

    /** "if one of these is longer than it LEAPS at most, it TURNS BACK": by each row of 1 to 10 and each LEAP. */
    private static void turnsBackAtALongerRow() {
        for (int longest = 1; longest <= 10; longest++) {
            for (int leap = 0; leap <= 9; leap++) {
                MiddlePlank x = Check.bridge("." + "rrrrrrrrrr".substring(0, longest - 1) + ".....", "p6w" + leap, "a");
                x.set(1, 0);
                boolean crosses = leap >= longest;
                come("row of " + longest + ", LEAPS " + leap, x, 0, crosses ? CROSSES : TURNS_BACK,
                        crosses ? 1 : 0, longest);
                CHECK.due("row of " + longest + ", LEAPS " + leap + ": the GAP", x.gap(1), crosses ? 1 : 0);
            }
        }
        MiddlePlank all = Check.bridge("rrrrrrrrrrrrrrrrrrr", "p6w9", "a");
        come("19 rotten ones", all, 0, TURNS_BACK, 0, 19);
    }

    /** "LEAPS over each row of HOLES": the long one may be first, between, last. */
    private static void turnsBackAtAnyRow() {
        for (String planks : new String[] {"rrr..r.....r", "r..rrr.....r", "r......r.rrr"}) {
            MiddlePlank x = Check.bridge(planks, "g6w2;g6w3;g6e2;g6e3", "abcd");
            x.set(1, 9);
            if (planks.endsWith("rrr")) {
                x.set(1, 4);
            }
            come(planks + ", LEAPS 2", x, 0, TURNS_BACK, 0, 3);
            come(planks + ", LEAPS 3", x, 1, CROSSES, 4, 3);
            come(planks + ", LEAPS 2 from the east", x, 2, TURNS_BACK, 0, 3);
            come(planks + ", LEAPS 3 from the east", x, 3, CROSSES, 4, 3);
        }
    }

    /** "its TOLL is 1 for each row that it LEAPS": 1 to 10 rows. */
    private static void tollIsARowEach() {
        for (int rows = 1; rows <= 10; rows++) {
            String planks = "." + ".r.r.r.r.r.r.r.r.r".substring(0, 2 * rows - 2);
            MiddlePlank x = Check.bridge(planks, "p6e1;h6w1;c9e1;g9w1", "d");
            x.set(1, 0);
            come(rows + " rows", x, 0, CROSSES, rows, 1);
            CHECK.due(rows + " rows, taken", x.taken(1), rows);
        }
    }

    /** "a bride is carried: she pays nothing"; but she LEAPS no farther for that. */
    private static void brideIsCarried() {
        MiddlePlank x = Check.bridge("r.r.r.", "b6w1;b6e0;b6w2;p6w1", "abcd");
        x.set(1, 1);
        come("a bride, LEAPS too short", x, 0, TURNS_BACK, 0, 3);
        come("a bride, LEAPS 0", x, 1, TURNS_BACK, 0, 3);
        come("a bride, LEAPS 2", x, 2, TURNS_BACK, 0, 3);
        CHECK.due("a bride who TURNS BACK is not thrown", x.gap(3), 1);
        x.set(1, 5);
        come("a bride", x, 0, TURNS_BACK, 0, 2);
        come("a bride who LEAPS 2", x, 2, CROSSES, 0, 2);
        CHECK.due("no TOLLS of brides", x.taken(3), 0);
        CHECK.due("but thrown", x.gap(3), 0);
    }

    /** "a bride, who is thrown, to the PLANK as far from the east end as it was from the west." */
    private static void brideIsThrown() {
        for (int n = 1; n <= 19; n++) {
            MiddlePlank fromWest = Check.bridge(SOUND.substring(0, n), "b1w1", "aa");
            MiddlePlank fromEast = Check.bridge(SOUND.substring(0, n), "b1e1", "aa");
            for (int kind = 0; kind < 4; kind++) {
                fromEast.shift(kind, 5);
            }
            for (int begin = 0; begin < n; begin++) {
                fromWest.set(1, begin);
                fromEast.set(1, begin);
                CHECK.due(n + " PLANKS, thrown from " + begin, fromWest.gap(1), n - 1 - begin);
                CHECK.due(n + " PLANKS, from the east, thrown from " + begin, fromEast.gap(1), n - 1 - begin);
                CHECK.due(n + " PLANKS, thrown twice", fromWest.gap(2), begin);
            }
        }
    }

    /** "Who CROSSES moves the GAP": not who TURNS BACK, not one that is IDLE. */
    private static void onlyWhoCrossesMovesTheGap() {
        MiddlePlank x = Check.bridge(SOUND, "p1w0;h1e0;c1w0;b1w0;p1w1", "abcdhe");
        x.set(1, 4);
        for (int number = 0; number <= 5; number++) {
            CHECK.due("nobody CROSSED, behind " + number, x.gap(number), 4);
        }
        CHECK.due("one CROSSED", x.gap(6), 5);
    }
}
