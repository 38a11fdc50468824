import java.util.Random;

/** Promises 28 to 33 by calls of chance, always the same ones, against Java's own arrays and what they throw. */
public final class SheetsByChanceTest {
    private static final Check CHECK = new Check("SheetsByChanceTest");
    private static final Random CHANCE = new Random(28);

    private static Object[] rows;
    private static int latest;
    private static int seen;

    public static void main(String[] args) {
        for (int n = 0; n < 300; n++) {
            MiddlePlank x = Check.bridge("r..r...", "p3w2;h7e3;b5e4", "abcab");
            rows = new Object[4];
            latest = 0;
            seen = 0;
            for (int i = 0; i < 450; i++) {
                act(x);
                CHECK.due("34: count(8)", x.count(8), latest);
            }
        }
        CHECK.end();
    }

    private static int near(int least, int most) {
        int wide = CHANCE.nextInt(60);
        if (wide == 0) {
            return CHANCE.nextInt();
        }
        if (wide == 1) {
            return CHANCE.nextBoolean() ? Integer.MIN_VALUE : Integer.MAX_VALUE;
        }
        boolean edge = CHANCE.nextInt(12) == 0;
        return edge ? (CHANCE.nextBoolean() ? least - 1 : most + 1) : least + CHANCE.nextInt(most - least + 1);
    }

    private static int found(int number) {
        latest = number;
        return -10 - number;
    }

    private static void act(MiddlePlank x) {
        int s = near(0, 3);
        int form = near(0, 2);
        switch (CHANCE.nextInt(9)) {
            case 0 -> {
                int n = CHANCE.nextInt(4) == 0 ? near(0, 60) : near(0, 6);
                CHECK.due("28: sheet(" + s + ", " + form + ", " + n + ")", x.sheet(s, form, n), sheet(s, form, n));
            }
            case 1 -> {
                if (CHANCE.nextInt(4) == 0) {
                    CHECK.due("29: lose(" + s + ")", x.lose(s), lose(s));
                }
            }
            case 2, 3 -> {
                int i = near(0, 5);
                int v = CHANCE.nextBoolean() ? CHANCE.nextInt(25) : CHANCE.nextInt();
                CHECK.due("30: lay(" + s + ", " + form + ", " + i + ", " + v + ")",
                        x.lay(s, form, i, v), lay(s, form, i, v));
            }
            case 4, 5 -> {
                int i = near(0, 5);
                CHECK.due("31: get(" + s + ", " + form + ", " + i + ")", x.get(s, form, i), get(s, form, i));
            }
            case 6 -> {
                int i = near(0, 4);
                int t = near(0, 3);
                int j = near(0, 4);
                int n = near(0, 4);
                CHECK.due("32: copy(" + s + ", " + i + ", " + t + ", " + j + ", " + n + ")",
                        x.copy(s, i, t, j, n), copy(s, i, t, j, n));
            }
            case 7 -> CHECK.due("33: write(" + s + ")", x.write(s), write(x, s));
            default -> {
                CHECK.due("22: read(" + s + ")", x.read(s), read(s));
                CHECK.due("34: count(7)", x.count(7), seen);
                if (CHANCE.nextInt(3) == 0) {
                    CHECK.due("21: forget()", x.forget(), seen);
                    seen = 0;
                }
            }
        }
    }

    private static boolean noSheet(int s) {
        return s < 0 || s > 3;
    }

    private static boolean noForm(int form) {
        return form < 0 || form > 2;
    }

    private static int sheet(int s, int form, int n) {
        if (noSheet(s) || noForm(form) || n > 60) {
            return -2;
        }
        try {
            rows[s] = form == 0 ? new byte[n] : form == 1 ? new short[n] : new int[n];
            return n;
        } catch (NegativeArraySizeException e) {
            return found(5);
        }
    }

    private static int length(int s) {
        return java.lang.reflect.Array.getLength(rows[s]);
    }

    private static int lose(int s) {
        if (noSheet(s)) {
            return -2;
        }
        try {
            int had = length(s);
            rows[s] = null;
            return had;
        } catch (NullPointerException e) {
            return found(1);
        }
    }

    private static int thrown(RuntimeException e) {
        return found(e instanceof NullPointerException ? 1 : e instanceof ClassCastException ? 3
                : e instanceof ArrayStoreException ? 4 : 2);
    }

    private static int lay(int s, int form, int i, int v) {
        if (noSheet(s) || noForm(form)) {
            return -2;
        }
        try {
            switch (form) {
                case 0 -> ((byte[]) rows[s])[i] = (byte) v;
                case 1 -> ((short[]) rows[s])[i] = (short) v;
                default -> ((int[]) rows[s])[i] = v;
            }
            return 1;
        } catch (RuntimeException e) {
            return thrown(e);
        }
    }

    private static int get(int s, int form, int i) {
        if (noSheet(s) || noForm(form)) {
            return Integer.MIN_VALUE;
        }
        try {
            return form == 0 ? ((byte[]) rows[s])[i] : form == 1 ? ((short[]) rows[s])[i] : ((int[]) rows[s])[i];
        } catch (RuntimeException e) {
            thrown(e);
            return Integer.MIN_VALUE;
        }
    }

    private static int copy(int s, int i, int t, int j, int n) {
        if (noSheet(s) || noSheet(t)) {
            return -2;
        }
        try {
            System.arraycopy(rows[s], i, rows[t], j, n);
            return 1;
        } catch (RuntimeException e) {
            return thrown(e);
        }
    }

    private static int item(int s, int i) {
        return ((Number) java.lang.reflect.Array.get(rows[s], i)).intValue();
    }

    private static int formOf(int s) {
        return rows[s] instanceof byte[] ? 0 : rows[s] instanceof short[] ? 1 : 2;
    }

    private static int write(MiddlePlank x, int s) {
        if (noSheet(s)) {
            return -2;
        }
        if (rows[s] == null) {
            return found(1);
        }
        int written = Math.min(length(s), 6);
        for (int i = 0; i < written; i++) {
            lay(s, formOf(s), i, x.gap(i));
        }
        return written;
    }

    private static int read(int s) {
        if (noSheet(s)) {
            return -2;
        }
        if (rows[s] == null) {
            return found(1);
        }
        int read = 0;
        for (int i = 0; i + 1 < length(s) && seen < 8; i += 2) {
            if (item(s, i) < 0 || item(s, i) > 24 || item(s, i + 1) < 0 || item(s, i + 1) > 18) {
                break;
            }
            read++;
            seen++;
        }
        return read;
    }
}
