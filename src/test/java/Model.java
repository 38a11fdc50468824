import java.math.BigInteger;
import java.util.ArrayList;
import java.util.List;
import java.util.regex.Pattern;

/** The document told once more, slowly and by other means, to compare answers with. */
final class Model {
    final StringBuilder[] texts = {new StringBuilder(), new StringBuilder(), new StringBuilder()};
    final int[] shifts = {1, 2, -1, 0};
    final List<int[]> seen = new ArrayList<>();
    int river = 5;
    int begin = 9;
    private final String[] looked = new String[3];
    private final String[] well = new String[3];

    private static final Pattern PLANKS = Pattern.compile("[.r]*");
    private static final Pattern CROSSERS = Pattern.compile("([phcgb][1-9][we][0-9](;[phcgb][1-9][we][0-9]){0,7})?");
    private static final Pattern CROSSINGS = Pattern.compile("[a-h]*");

    /** What came of one CROSSING: 0 IDLE, 1 CROSSES, 2 TURNS BACK; where the GAP is then. */
    record Come(int what, int toll, int longest, int gap) {
    }

    private static boolean isWell(int text, String bytes) {
        return new Pattern[] {PLANKS, CROSSERS, CROSSINGS}[text].matcher(bytes).matches();
    }

    /** The place of the first byte with which no end makes the text well. */
    int fault(int text) {
        String bytes = texts[text].toString();
        if (isWell(text, bytes)) {
            return -1;
        }
        for (int i = 0; i < bytes.length(); i++) {
            if (!canGoOn(text, bytes.substring(0, i + 1))) {
                return i;
            }
        }
        return bytes.length();
    }

    private static boolean canGoOn(int text, String start) {
        for (String end : new String[] {"", "1w1", "w1", "1", "p1w1"}) {
            if (isWell(text, start + end)) {
                return true;
            }
        }
        return false;
    }

    private String well(int text) {
        String bytes = texts[text].toString();
        if (!bytes.equals(looked[text])) {
            looked[text] = bytes;
            well[text] = fault(text) == -1 ? bytes : "";
        }
        return well[text];
    }

    String planks() {
        return well(0);
    }

    String[] crossers() {
        return well(1).isEmpty() ? new String[0] : well(1).split(";");
    }

    int[] crossings() {
        return well(2).chars().map(letter -> letter - 'a').toArray();
    }

    int firstGap() {
        return planks().isEmpty() ? -1 : begin % planks().length();
    }

    Come come(int crosser, int gap, int[] by) {
        String[] all = crossers();
        String planks = planks();
        if (river <= 1 || planks.isEmpty() || crosser >= all.length) {
            return new Come(0, 0, 0, gap);
        }
        String who = all[crosser];
        int n = planks.length();
        char[] way = planks.toCharArray();
        for (int i = 0; i < n; i++) {
            way[i] = way[i] == 'r' && who.charAt(1) >= '6' ? 'O' : '=';
        }
        way[gap] = 'O';
        if (river >= 7) {
            way[(gap + 1) % n] = 'O';
        }
        int longest = 0;
        int rows = 0;
        for (String row : new String(way).split("=+")) {
            longest = Math.max(longest, row.length());
            rows += row.isEmpty() ? 0 : 1;
        }
        if (longest > who.charAt(3) - '0') {
            return new Come(2, 0, longest, gap);
        }
        boolean bride = who.charAt(0) == 'b';
        return new Come(1, bride ? 0 : rows, longest, bride ? n - 1 - gap : gapFrom(who, gap, by, n));
    }

    private static int gapFrom(String who, int gap, int[] by, int n) {
        int shift = by["phcg".indexOf(who.charAt(0))];
        return Math.floorMod(gap + (who.charAt(2) == 'w' ? shift : -shift), n);
    }

    List<Come> walk(int[] row, int first, int[] by) {
        List<Come> walked = new ArrayList<>();
        int gap = first;
        for (int who : row) {
            Come come = come(who, gap, by);
            walked.add(come);
            gap = come.gap();
        }
        return walked;
    }

    List<Come> walk() {
        return walk(crossings(), firstGap(), shifts);
    }

    static int gapBehind(List<Come> walked, int number, int first) {
        return number == 0 ? first : walked.get(number - 1).gap();
    }

    int gap(int number) {
        return gapBehind(walk(), number, firstGap());
    }

    int taken(int number) {
        return walk().subList(0, number).stream().mapToInt(Come::toll).sum();
    }

    int times(int crosser, int what) {
        List<Come> walked = walk();
        int[] row = crossings();
        int times = 0;
        for (int i = 0; i < row.length; i++) {
            times += row[i] == crosser && walked.get(i).what() == what ? 1 : 0;
        }
        return times;
    }

    int stuck() {
        return walk().stream().map(Come::what).toList().indexOf(2);
    }

    int worn() {
        int[] visits = new int[19];
        int worn = -1;
        for (int number = 0; number <= crossings().length && firstGap() >= 0; number++) {
            visits[gap(number)]++;
        }
        for (int plank = 0; plank < 19; plank++) {
            if (visits[plank] > (worn < 0 ? 0 : visits[worn])) {
                worn = plank;
            }
        }
        return worn;
    }

    /** How many CROSS, the TOLLS, the row: by trying every row, the least ahead. */
    int[] order() {
        int n = crossers().length;
        int[] best = new int[2 + n];
        best[0] = -1;
        tryRows(new int[n], 0, best);
        return best;
    }

    private void tryRows(int[] row, int placed, int[] best) {
        if (placed == row.length) {
            List<Come> walked = walk(row, firstGap(), shifts);
            int crossing = (int) walked.stream().filter(come -> come.what() == 1).count();
            int tolls = walked.stream().mapToInt(Come::toll).sum();
            if (crossing > best[0] || crossing == best[0] && tolls < best[1]) {
                best[0] = crossing;
                best[1] = tolls;
                System.arraycopy(row, 0, best, 2, row.length);
            }
            return;
        }
        for (int who = 0; who < row.length; who++) {
            boolean free = true;
            for (int i = 0; i < placed; i++) {
                free &= row[i] != who;
            }
            if (free) {
                row[placed] = who;
                tryRows(row, placed + 1, best);
            }
        }
    }

    int ahead(int crosser) {
        int gap = gap(crossings().length);
        if (come(crosser, gap, shifts).what() == 1) {
            return -3;
        }
        for (int other = 0; other < crossers().length; other++) {
            Come first = come(other, gap, shifts);
            if (other != crosser && first.what() == 1 && come(crosser, first.gap(), shifts).what() == 1) {
                return other;
            }
        }
        return -1;
    }

    int often(int crosser, int other) {
        for (int times = 0; times <= 9; times++) {
            int gap = gap(crossings().length);
            for (int i = 0; i < times; i++) {
                gap = come(other, gap, shifts).gap();
            }
            if (come(crosser, gap, shifts).what() == 1) {
                return times;
            }
        }
        return -1;
    }

    private boolean agrees(int first, int[] by) {
        List<Come> walked = walk(crossings(), first, by);
        return seen.stream().allMatch(one -> one[0] <= walked.size() && gapBehind(walked, one[0], first) == one[1]);
    }

    int rule(int kind) {
        int bits = 0;
        for (int bit = 0; bit < 19; bit++) {
            int[] by = shifts.clone();
            by[kind] = bit - 9;
            bits |= agrees(firstGap(), by) ? 1 << bit : 0;
        }
        return bits;
    }

    int began() {
        int bits = 0;
        for (int plank = 0; plank < planks().length(); plank++) {
            bits |= agrees(plank, shifts) ? 1 << plank : 0;
        }
        return bits;
    }

    /** In the document's words, though no number can be below that of 0 CROSSINGS. */
    int ask() {
        int asked = 0;
        int least = Integer.MAX_VALUE;
        int began = began();
        for (int number = 0; number <= crossings().length; number++) {
            int[] on = new int[19];
            int greatest = 0;
            for (int plank = 0; plank < 19; plank++) {
                if ((began >> plank & 1) == 1) {
                    int gap = gapBehind(walk(crossings(), plank, shifts), number, plank);
                    greatest = Math.max(greatest, ++on[gap]);
                }
            }
            if (greatest < least) {
                least = greatest;
                asked = number;
            }
        }
        return asked;
    }

    /** Above and below, by every set of CROSSINGS that may be. */
    long[] maybe(int c, int plank) {
        int[] row = crossings();
        BigInteger above = BigInteger.ZERO;
        for (int set = 0; set < 1 << row.length; set++) {
            int gap = firstGap();
            for (int i = 0; i < row.length; i++) {
                gap = (set >> i & 1) == 1 ? come(row[i], gap, shifts).gap() : gap;
            }
            int come = Integer.bitCount(set);
            if (gap == plank) {
                above = above.add(BigInteger.valueOf(c).pow(come)
                        .multiply(BigInteger.valueOf(16 - c).pow(row.length - come)));
            }
        }
        BigInteger below = BigInteger.valueOf(16).pow(row.length);
        BigInteger divisor = above.gcd(below);
        return new long[] {above.divide(divisor).longValueExact(), below.divide(divisor).longValueExact()};
    }

    int[] week(int seed, int n) {
        int gap = gap(crossings().length);
        int crossed = 0;
        long lot = seed;
        for (int i = 0; i < n && crossers().length > 0; i++) {
            lot = (1103515245L * lot + 12345L) & 0xffffffffL;
            Come come = come((int) (lot / 65536 % crossers().length), gap, shifts);
            crossed += come.what() == 1 ? 1 : 0;
            gap = come.gap();
        }
        return new int[] {gap, crossed};
    }
}
