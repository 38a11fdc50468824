import java.io.IOException;
import java.lang.reflect.Method;
import java.nio.file.Files;
import java.nio.file.Path;
import java.util.regex.Matcher;
import java.util.regex.Pattern;

/** README.md's example is run line by line: what it says that a call answers is what the call answers. */
public final class ReadmeTest {
    private static final Check CHECK = new Check("ReadmeTest");
    private static final Pattern TYPED = Pattern.compile("for \\(char b : \"([^\"]*)\".* bridge\\.type\\((\\d), b\\);.*");
    private static final Pattern CALL = Pattern.compile("bridge\\.(\\w+)\\(([-\\d, ]*)\\); *//.*: (-?\\d+)");

    public static void main(String[] args) throws IOException, ReflectiveOperationException {
        String readme = Files.readString(Path.of("README.md"));
        String block = readme.replaceAll("(?s).*```java\n(.*?)```.*", "$1");
        MiddlePlank bridge = new MiddlePlank();
        for (String line : block.split("\n")) {
            Matcher typed = TYPED.matcher(line);
            Matcher call = CALL.matcher(line);
            if (typed.matches()) {
                Check.type(bridge, Integer.parseInt(typed.group(2)), typed.group(1));
            } else if (call.matches()) {
                CHECK.due(line, answer(bridge, call.group(1), call.group(2)), Long.parseLong(call.group(3)));
            } else {
                boolean plain = line.isBlank() || line.equals("MiddlePlank bridge = new MiddlePlank();");
                CHECK.holds("a line of the example that can be run: " + line, plain);
            }
        }
        for (Method method : MiddlePlank.class.getDeclaredMethods()) {
            boolean told = (method.getModifiers() & 1) == 0 || readme.contains("`" + method.getName() + "(");
            CHECK.holds("README.md names " + method.getName(), told);
        }
        CHECK.end();
    }

    private static long answer(MiddlePlank bridge, String name, String numbers) throws ReflectiveOperationException {
        String[] parts = numbers.isBlank() ? new String[0] : numbers.split(", *");
        Object[] arguments = new Object[parts.length];
        Class<?>[] types = new Class<?>[parts.length];
        for (int i = 0; i < parts.length; i++) {
            arguments[i] = Integer.valueOf(parts[i].trim());
            types[i] = int.class;
        }
        Number answer = (Number) MiddlePlank.class.getMethod(name, types).invoke(bridge, arguments);
        return answer.longValue();
    }
}
