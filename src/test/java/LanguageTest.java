import java.io.IOException;
import java.lang.reflect.Constructor;
import java.lang.reflect.Field;
import java.lang.reflect.Method;
import java.lang.reflect.Modifier;
import java.nio.file.Files;
import java.nio.file.Path;
import java.util.Arrays;
import java.util.Set;
import java.util.TreeSet;
import java.util.regex.Matcher;
import java.util.regex.Pattern;

/** The public face of the document, and the rules of LANGUAGE.md that the class or its source can tell. */
public final class LanguageTest {
    private static final Check CHECK = new Check("LanguageTest");

    private static final String[] FACE = {
        "int type(int,int)", "int wipe(int)", "int undo(int)", "int fault(int)", "int plank(int)",
        "int crosser(int,int)", "int crossing(int)", "int set(int,int)", "int shift(int,int)", "int gap(int)",
        "int comes(int,int)", "int times(int,int)", "int taken(int)", "int stuck()", "int worn()",
        "int order(int)", "int ahead(int)", "int often(int,int)", "int seen(int,int)", "int forget()",
        "int read(int)", "int rule(int)", "int began()", "int ask()", "long maybe(int,int,int)",
        "int week(int,int,int)", "int sheet(int,int,int)", "int lose(int)", "int lay(int,int,int,int)",
        "int get(int,int,int)", "int copy(int,int,int,int,int)", "int write(int)", "int count(int)",
        "long digest()",
    };

    public static void main(String[] args) throws IOException {
        constants();
        face();
        privateNames();
        classesInside();
        words();
        CHECK.end();
    }

    private static void constants() {
        CHECK.due("NONE", MiddlePlank.NONE, -1);
        CHECK.due("BAD", MiddlePlank.BAD, -2);
        CHECK.due("NOT", MiddlePlank.NOT, -3);
        CHECK.due("FULL", MiddlePlank.FULL, -4);
        for (Field field : MiddlePlank.class.getDeclaredFields()) {
            boolean told = Set.of("NONE", "BAD", "NOT", "FULL").contains(field.getName());
            CHECK.holds("rule 1: field " + field, told || Modifier.isPrivate(field.getModifiers()));
            boolean isStatic = Modifier.isStatic(field.getModifiers());
            CHECK.holds("rule 5: field " + field, !isStatic || Modifier.isFinal(field.getModifiers()));
        }
    }

    private static String signature(Method method) {
        StringBuilder parameters = new StringBuilder();
        for (Class<?> parameter : method.getParameterTypes()) {
            parameters.append(parameters.isEmpty() ? "" : ",").append(parameter.getName());
        }
        return method.getReturnType().getName() + " " + method.getName() + "(" + parameters + ")";
    }

    private static void face() {
        Set<String> visible = new TreeSet<>();
        for (Method method : MiddlePlank.class.getDeclaredMethods()) {
            if (!Modifier.isPrivate(method.getModifiers())) {
                visible.add(signature(method));
            }
        }
        Set<String> due = new TreeSet<>(Arrays.asList(FACE));
        CHECK.holds("rule 1: the face is " + visible, visible.equals(due));
        Constructor<?>[] constructors = MiddlePlank.class.getDeclaredConstructors();
        CHECK.due("rule 1: constructors", constructors.length, 1);
        CHECK.due("rule 1: its parameters", constructors[0].getParameterCount(), 0);
        CHECK.holds("rule 1: final", Modifier.isFinal(MiddlePlank.class.getModifiers()));
    }

    private static void privateNames() {
        Set<String> names = new TreeSet<>();
        for (String signature : FACE) {
            names.add(signature.replaceAll(".* |\\(.*", ""));
        }
        for (Method method : MiddlePlank.class.getDeclaredMethods()) {
            boolean hidden = Modifier.isPrivate(method.getModifiers());
            CHECK.holds("rule 1: name of " + method, !hidden || !names.contains(method.getName()));
            CHECK.holds("rule 11: parameters of " + method, method.getParameterCount() <= 7);
        }
    }

    private static void classesInside() {
        Class<?>[] inside = MiddlePlank.class.getDeclaredClasses();
        CHECK.holds("rule 11: classes", inside.length <= 12);
        for (Class<?> each : inside) {
            CHECK.holds("rule 2: static " + each, Modifier.isStatic(each.getModifiers()));
            CHECK.holds("rule 1: hidden " + each, !Modifier.isPublic(each.getModifiers()));
            CHECK.holds("rule 11: fields of " + each, each.getDeclaredFields().length <= 20);
        }
    }

    private static void words() throws IOException {
        String source = Files.readString(Path.of("src/main/java/MiddlePlank.java"));
        String code = source.replaceAll("(?s)/\\*.*?\\*/", "").replaceAll("//[^\n]*", "");
        Matcher found = Pattern.compile("\\b(throw|throws|try|catch|synchronized|assert|import|package|Exception"
                + "|Error|equals|hashCode|toString|Random|System\\.(?!arraycopy))\\b|->|::").matcher(code);
        while (found.find()) {
            CHECK.holds("rules 2, 4, 6: no '" + found.group() + "'", false);
        }
        CHECK.holds("the source is plain", source.chars().allMatch(sign -> sign < 128));
    }
}
