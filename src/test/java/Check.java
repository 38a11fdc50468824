/** Counts and prints the answers that are not as due. */
final class Check {
    private final String name;
    private int wrong;
    private int asked;

    Check(String name) {
        this.name = name;
    }

    void due(String call, long got, long want) {
        asked++;
        if (got != want) {
            wrong++;
            System.out.println(name + ": " + call + " answered " + got + ", due is " + want);
        }
    }

    void holds(String what, boolean held) {
        due(what, held ? 1 : 0, 1);
    }

    void end() {
        System.out.println(name + ": " + asked + " asked, " + wrong + " wrong");
        if (wrong != 0) {
            System.exit(1);
        }
    }

    static void type(MiddlePlank bridge, int text, String bytes) {
        for (int i = 0; i < bytes.length(); i++) {
            bridge.type(text, bytes.charAt(i));
        }
    }

    static MiddlePlank bridge(String planks, String crossers, String crossings) {
        MiddlePlank bridge = new MiddlePlank();
        type(bridge, 0, planks);
        type(bridge, 1, crossers);
        type(bridge, 2, crossings);
        return bridge;
    }
}
