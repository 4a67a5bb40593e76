import java.io.IOException;
import java.lang.reflect.Constructor;
import java.lang.reflect.Field;
import java.lang.reflect.Method;
import java.lang.reflect.Modifier;
import java.nio.file.Files;
import java.nio.file.Path;
import java.util.ArrayList;
import java.util.HashSet;
import java.util.LinkedHashMap;
import java.util.List;
import java.util.Map;
import java.util.Set;
import java.util.regex.Matcher;
import java.util.regex.Pattern;

/** The rules of LANGUAGE.md, as far as a test can see them in the class and in the text of its file. */
public final class LanguageTest {
    private static final Check CHECK = new Check("LanguageTest");
    private static final Class<?> BENCH = RetimingBench.class;
    private static final Set<String> TYPES = Set.of("int", "long", "short", "byte", "char", "boolean");
    private static final Pattern METHOD =
        Pattern.compile("\n    (?:public|private)(?: static)? (?:\\w+ )?(\\w+)\\([^)]*\\) \\{\n(.*?)\n    }\n", Pattern.DOTALL);
    private static final Pattern ARRAY_FIELD =
        Pattern.compile("\n    private final (\\w+)\\[] \\w+ = new \\1\\[(?:[A-Z_]+|[1-9]\\d*)];");

    public static void main(String[] args) throws IOException {
        String source = Files.readString(Path.of("src/main/java/RetimingBench.java"));
        String code = source.replaceAll("(?s)/\\*.*?\\*/|//[^\n]*", "");
        oneClass();
        typesAndFields();
        words(code);
        arrays(code);
        calls(code);
        CHECK.run(LanguageTest::noCallThrows);
        CHECK.run(LanguageTest::sameCallsSameAnswers);
        CHECK.end();
    }

    private static void oneClass() {
        CHECK.part("rule 1");
        CHECK.due("nested classes", BENCH.getDeclaredClasses().length, 0);
        CHECK.due("no package", BENCH.getPackageName().isEmpty(), true);
        Set<String> open = new HashSet<>();
        for (Method method : BENCH.getMethods()) {
            open.add(method.getName());
        }
        for (Method method : BENCH.getDeclaredMethods()) {
            boolean hidden = Modifier.isPrivate(method.getModifiers());
            CHECK.due("a private " + method.getName(), hidden && open.contains(method.getName()), false);
        }
    }

    private static void typesAndFields() {
        int fields = 0;
        for (Field field : BENCH.getDeclaredFields()) {
            dueType(field.getName(), field.getType());
            if (Modifier.isStatic(field.getModifiers())) {
                CHECK.part("rule 5");
                boolean number = field.getType() == int.class || field.getType() == long.class;
                CHECK.due(field.getName(), number && Modifier.isFinal(field.getModifiers()), true);
            } else {
                fields++;
            }
        }
        for (Constructor<?> made : BENCH.getDeclaredConstructors()) {
            dueParameters("the constructor", made.getParameterTypes());
        }
        for (Method method : BENCH.getDeclaredMethods()) {
            dueParameters(method.getName(), method.getParameterTypes());
            Class<?> answer = method.getReturnType();
            CHECK.part("rules 2 and 4");
            CHECK.due("answer of " + method.getName(), answer == void.class || TYPES.contains(answer.getName()), true);
        }
        CHECK.part("rule 10");
        CHECK.due("at most 40 fields", fields <= 40, true);
    }

    private static void dueParameters(String name, Class<?>[] types) {
        CHECK.part("rule 10");
        CHECK.due("at most 7 parameters of " + name, types.length <= 7, true);
        for (Class<?> type : types) {
            dueType(name, type);
        }
    }

    private static void dueType(String name, Class<?> type) {
        CHECK.part("rule 2");
        Class<?> single = type.isArray() ? type.getComponentType() : type;
        CHECK.due("type of " + name, TYPES.contains(single.getName()), true);
    }

    private static void words(String code) {
        CHECK.part("rules 1 to 6 and 11");
        String banned = "import|package|class|interface|enum|record|float|double|String|Object|Math|Integer|Long|System|Arrays"
            + "|Thread|null|throws?|try|catch|finally|synchronized|assert|instanceof";
        Matcher word = Pattern.compile("\\b(?:" + banned + ")\\b|->|::|\"").matcher(code.replaceFirst("final class ", ""));
        while (word.find()) {
            CHECK.due("uses of " + word.group(), 1, 0);
        }
    }

    private static void arrays(String code) {
        CHECK.part("rule 4");
        Matcher made = Pattern.compile("\\bnew\\b").matcher(code);
        Matcher field = ARRAY_FIELD.matcher(code);
        CHECK.due("arrays are made by field initialisers alone", made.results().count(), field.results().count());
    }

    private static void calls(String code) {
        Map<String, String> bodies = new LinkedHashMap<>();
        Matcher method = METHOD.matcher(code);
        while (method.find()) {
            bodies.put(method.group(1), method.group(2));
            CHECK.part("rule 10");
            CHECK.due(method.group(1) + " is short", method.group(2).lines().count() <= 60, true);
        }
        CHECK.due("methods seen", bodies.size(), BENCH.getDeclaredMethods().length + 1);
        Pattern call = Pattern.compile("\\b(" + String.join("|", bodies.keySet()) + ")\\(");
        Pattern inside = Pattern.compile(call.pattern() + "[^()]*\\w\\(");
        for (Map.Entry<String, String> entry : bodies.entrySet()) {
            CHECK.due("a call in the arguments of another in " + entry.getKey(), inside.matcher(entry.getValue()).find(), false);
        }
        CHECK.part("rules 8 and 10");
        Set<String> level = bodies.keySet();
        int deep = 0;
        while (!level.isEmpty() && deep <= 6) {
            deep++;
            Set<String> next = new HashSet<>();
            for (String name : level) {
                call.matcher(bodies.get(name)).results().forEach(found -> next.add(found.group(1)));
            }
            level = next;
        }
        CHECK.due("calls go at most six deep, and none comes back", deep <= 6 && level.isEmpty(), true);
    }

    private static final int[] ODD = {Check.LEAST, Check.LEAST + 1, -2, -1, 0, 1, 2, 3, 4, 5, 6, 9, 10, 11, 12, 13, 45, 46,
        Check.MOST - 1, Check.MOST};

    private static long call(RetimingBench x, int kind, int a, int b, int c) {
        switch (kind) {
            case 0: return x.delay(a, b) ? 1 : 0;
            case 1: return x.wire(a, b, c);
            case 2: return x.cut(a);
            case 3: return x.sound() ? 1 : 0;
            case 4: return x.period();
            case 5: return x.best();
            case 6: return x.lag(a);
            case 7: return x.reachable(a) ? 1 : 0;
            case 8: return x.apply();
            case 9: return x.registers(a);
            default: return x.fewest(a, b);
        }
    }

    /** Also after the 512th call, where the answers are free. */
    private static void noCallThrows() {
        CHECK.part("rule 7");
        for (int blocks : ODD) {
            RetimingBench x = new RetimingBench(blocks);
            for (int turn = 0; turn < 40000; turn++) {
                int mixed = turn * 0x9E3779B1 >>> 8;
                call(x, mixed % 11, ODD[mixed / 11 % 20], ODD[mixed / 220 % 20], ODD[mixed / 4400 % 20]);
            }
        }
        // So many that a way has more registers than the class can tell from no way.
        RetimingBench grown = CHECK.bench(9, 9, 9, 9, 9);
        CHECK.wires(grown, new int[] {0, 4, 3});
        for (int turn = 0; turn < 300000; turn++) {
            for (int v = 0; v < 4; v++) {
                grown.wire(v, v + 1, 0);
            }
            grown.apply();
            for (int v = 0; v < 4; v++) {
                grown.cut(1);
            }
        }
    }

    private static void sameCallsSameAnswers() {
        CHECK.part("rule 11");
        List<Long> first = answers(new RetimingBench(4));
        List<Long> second = answers(new RetimingBench(4));
        CHECK.due("a second object answers as the first", second.equals(first), true);
    }

    private static List<Long> answers(RetimingBench x) {
        List<Long> answers = new ArrayList<>();
        for (int turn = 0; turn < 512; turn++) {
            int mixed = turn * 0x9E3779B1 >>> 8;
            answers.add(call(x, mixed % 11, mixed / 11 % 5, mixed / 55 % 5, mixed / 275 % 4));
        }
        return answers;
    }
}
