import java.lang.reflect.Constructor;
import java.lang.reflect.Field;
import java.lang.reflect.Method;
import java.lang.reflect.Modifier;
import java.util.Arrays;
import java.util.Set;
import java.util.TreeSet;

/** The public face: the members of the document, and no other that is not private. */
public final class FaceTest {
    public static void main(String[] args) {
        Check check = new Check("FaceTest");
        check.part("The public face");
        check.due("BAD", RetimingBench.BAD, -1);
        check.due("FULL", RetimingBench.FULL, -2);
        check.due("CIRCLE", RetimingBench.CIRCLE, -3);
        check.due("NO_PLAN", RetimingBench.NO_PLAN, -100);
        check.due("NO_BLOCK", RetimingBench.NO_BLOCK, -101);

        Set<String> want = new TreeSet<>(Arrays.asList(
            "public static final int BAD", "public static final int FULL", "public static final int CIRCLE",
            "public static final int NO_PLAN", "public static final int NO_BLOCK",
            "public RetimingBench(int)",
            "public boolean delay(int,int)", "public int wire(int,int,int)", "public int cut(int)",
            "public boolean sound()", "public int period()", "public int best()", "public int lag(int)",
            "public boolean reachable(int)", "public int apply()", "public int registers(int)",
            "public int fewest(int,int)"));
        Set<String> got = visibleMembers();
        for (String member : want) {
            check.due("there is " + member, got.contains(member), true);
        }
        for (String member : got) {
            check.due("the document has " + member, want.contains(member), true);
        }
        int modifiers = RetimingBench.class.getModifiers();
        check.due("public final class", modifiers, Modifier.PUBLIC | Modifier.FINAL);
        check.end();
    }

    private static Set<String> visibleMembers() {
        Set<String> got = new TreeSet<>();
        for (Field f : RetimingBench.class.getDeclaredFields()) {
            if (!Modifier.isPrivate(f.getModifiers())) {
                got.add(f.toGenericString().replace("RetimingBench.", ""));
            }
        }
        for (Constructor<?> c : RetimingBench.class.getDeclaredConstructors()) {
            if (!Modifier.isPrivate(c.getModifiers())) {
                got.add(c.toGenericString());
            }
        }
        for (Method m : RetimingBench.class.getDeclaredMethods()) {
            if (!Modifier.isPrivate(m.getModifiers())) {
                got.add(m.toGenericString().replace("RetimingBench.", ""));
            }
        }
        return got;
    }
}
