import java.lang.reflect.InvocationTargetException;
import java.lang.reflect.Method;
import java.util.ArrayList;
import java.util.Comparator;
import java.util.List;
import java.util.Random;

/** Any arguments in any state: no call throws, and what is refused changes nothing but count() 8. */
public final class WildCallsTest {
    private static final Check CHECK = new Check("WildCallsTest");
    private static final Random CHANCE = new Random(35);
    private static final List<String> ASKING = List.of("fault", "plank", "crosser", "crossing", "gap", "comes",
            "times", "taken", "stuck", "worn", "order", "ahead", "often", "rule", "began", "ask", "maybe", "week",
            "get", "count", "digest");

    public static void main(String[] args) throws IllegalAccessException {
        List<Method> face = new ArrayList<>();
        for (Method method : MiddlePlank.class.getDeclaredMethods()) {
            if (java.lang.reflect.Modifier.isPublic(method.getModifiers())) {
                face.add(method);
            }
        }
        face.sort(Comparator.comparing(Method::getName));
        for (int n = 0; n < 200; n++) {
            MiddlePlank x = n % 4 == 0 ? new MiddlePlank() : Check.bridge("r..r....r..".substring(n % 11),
                    "p3w2;h7e3;b5e4;c6w1", "abcdhcb");
            for (int i = 0; i < 150; i++) {
                call(x, face.get(CHANCE.nextInt(face.size())));
            }
        }
        CHECK.end();
    }

    private static int wild() {
        return switch (CHANCE.nextInt(8)) {
            case 0 -> CHANCE.nextInt();
            case 1 -> CHANCE.nextBoolean() ? Integer.MIN_VALUE : Integer.MAX_VALUE;
            case 2 -> -1 - CHANCE.nextInt(11);
            case 3 -> CHANCE.nextInt(300);
            default -> CHANCE.nextInt(10);
        };
    }

    private static void call(MiddlePlank x, Method method) throws IllegalAccessException {
        Object[] arguments = new Object[method.getParameterCount()];
        for (int i = 0; i < arguments.length; i++) {
            arguments[i] = wild();
        }
        String told = method.getName() + java.util.Arrays.toString(arguments);
        long before = state(x);
        int found = x.count(8);
        try {
            long answer = ((Number) method.invoke(x, arguments)).longValue();
            boolean any = method.getName().equals("shift");
            boolean refused = !ASKING.contains(method.getName()) && (any ? answer == -10002 : answer < -1);
            if (refused || ASKING.contains(method.getName())) {
                CHECK.due(told + " changes nothing", state(x), before);
            }
            if (answer <= -11 && answer >= -15 && !any && refused) {
                CHECK.due(told + " is a FINDING", x.count(8), -10 - answer);
            } else if (!method.getName().equals("get")) {
                CHECK.due(told + " is no FINDING", x.count(8), found);
            }
        } catch (InvocationTargetException e) {
            CHECK.holds(told + " threw " + e.getCause(), false);
        }
    }

    /** All but SHEETS (SheetsByChanceTest looks at these): the digest, and RIVER, BEGIN, SHIFTS, put back. */
    private static long state(MiddlePlank x) {
        long h = x.digest();
        int river = x.set(0, 0);
        x.set(0, river);
        int begin = x.set(1, 0);
        x.set(1, begin);
        h = 31 * (31 * h + river) + begin;
        for (int kind = 0; kind < 4; kind++) {
            int shift = x.shift(kind, 0);
            x.shift(kind, shift);
            h = 31 * h + shift;
        }
        return h;
    }
}
