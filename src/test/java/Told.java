/** All that an object tells, in one text, to compare twins by; asking takes the texts and SEEN apart. */
final class Told {
    private static final int ITEMS_LOOKED_AT = 6;

    private final StringBuilder row = new StringBuilder();
    private final MiddlePlank x;

    private Told(MiddlePlank x) {
        this.x = x;
    }

    static String all(MiddlePlank x) {
        Told told = new Told(x);
        // Ahead of the SHEETS, as a look at an item that is not there is a FINDING.
        told.tell("finding", x.count(8));
        told.tell("digest", x.digest());
        told.sheets();
        told.settings();
        told.texts();
        told.tell("seen", x.forget());
        return told.row.toString();
    }

    private void tell(String what, long answer) {
        row.append(what).append(' ').append(answer).append('\n');
    }

    private void sheets() {
        for (int s = 0; s < 4; s++) {
            for (int form = 0; form < 3; form++) {
                for (int i = 0; i < ITEMS_LOOKED_AT; i++) {
                    tell("item", x.get(s, form, i));
                }
            }
            tell("items", x.lose(s));
        }
    }

    private void settings() {
        tell("RIVER", x.set(0, 5));
        tell("BEGIN", x.set(1, 9));
        for (int kind = 0; kind < 4; kind++) {
            tell("SHIFT", x.shift(kind, 0));
        }
    }

    private void texts() {
        for (int text = 0; text < 3; text++) {
            int left = x.count(3 + text);
            while (left > 0) {
                tell("fault", x.fault(text));
                tell("of each", x.count(text));
                left = x.undo(text);
                tell("left", left);
            }
        }
    }
}
