import java.io.IOException;
import java.lang.reflect.Field;
import java.lang.reflect.Method;
import java.lang.reflect.Modifier;
import java.nio.file.Files;
import java.nio.file.Path;
import java.util.Arrays;
import java.util.HashSet;
import java.util.Set;
import java.util.regex.Matcher;
import java.util.regex.Pattern;
import java.util.stream.Collectors;

/** What README.md tells of the class: its example answers as it says, and no method or constant is left out. */
public final class ReadmeTest {
    private static final Check CHECK = new Check("ReadmeTest");
    private static final Pattern MADE = Pattern.compile("RetimingBench x = new RetimingBench\\((\\d+)\\);");
    private static final Pattern CALL = Pattern.compile("x\\.(\\w+)\\(([^)]*)\\); +// ([-\\w]+)(:.*)?");

    public static void main(String[] args) throws IOException, ReflectiveOperationException {
        String text = Files.readString(Path.of("README.md"));
        theExample(text);
        theMethods(text);
        theConstants(text);
        CHECK.end();
    }

    private static void theExample(String text) throws ReflectiveOperationException {
        CHECK.part("README.md, the example");
        String[] lines = text.split("```java\n")[1].split("```")[0].split("\n");
        Matcher made = MADE.matcher(lines[0]);
        CHECK.due("the example begins with an object", made.matches(), true);
        RetimingBench x = new RetimingBench(Integer.parseInt(made.group(1)));
        Set<String> called = new HashSet<>();
        for (int at = 1; at < lines.length; at++) {
            Matcher call = CALL.matcher(lines[at]);
            CHECK.due("a call and its answer: " + lines[at], call.matches(), true);
            CHECK.due(lines[at], answer(x, call.group(1), call.group(2)), meant(call.group(3)));
            called.add(call.group(1));
        }
        for (Method method : RetimingBench.class.getMethods()) {
            if (method.getDeclaringClass() == RetimingBench.class) {
                CHECK.due("the example calls " + method.getName(), called.contains(method.getName()), true);
            }
        }
    }

    private static long answer(RetimingBench x, String name, String arguments) throws ReflectiveOperationException {
        Object[] given = Arrays.stream(arguments.split(", *"))
            .filter(argument -> !argument.isEmpty()).map(Integer::valueOf).toArray();
        Class<?>[] types = new Class<?>[given.length];
        Arrays.fill(types, int.class);
        Object answered = RetimingBench.class.getMethod(name, types).invoke(x, given);
        return answered instanceof Boolean ? ((Boolean) answered ? 1L : 0L) : (Integer) answered;
    }

    private static long meant(String told) throws ReflectiveOperationException {
        if (told.equals("true") || told.equals("false")) {
            return told.equals("true") ? 1L : 0L;
        }
        return Character.isUpperCase(told.charAt(0)) ? RetimingBench.class.getField(told).getInt(null) : Long.parseLong(told);
    }

    private static void theMethods(String text) {
        CHECK.part("README.md, the methods");
        for (Method method : RetimingBench.class.getMethods()) {
            if (method.getDeclaringClass() == RetimingBench.class) {
                String parameters = Arrays.stream(method.getParameterTypes())
                    .map(type -> type + " \\w+").collect(Collectors.joining(", "));
                String row = "\n\\| `" + method.getReturnType() + " " + method.getName() + "\\(" + parameters + "\\)` \\| ";
                CHECK.due("there is a row for " + method.getName(), Pattern.compile(row).matcher(text).find(), true);
            }
        }
    }

    private static void theConstants(String text) throws ReflectiveOperationException {
        CHECK.part("README.md, the constants");
        for (Field field : RetimingBench.class.getFields()) {
            if (Modifier.isStatic(field.getModifiers())) {
                String row = "\n| `" + field.getName() + "` | " + field.getInt(null) + " | ";
                CHECK.due("there is a row for " + field.getName(), text.contains(row), true);
            }
        }
    }
}
