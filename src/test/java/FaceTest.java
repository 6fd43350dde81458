import java.lang.reflect.Constructor;
import java.lang.reflect.Field;
import java.lang.reflect.Method;
import java.lang.reflect.Modifier;
import java.util.Arrays;
import java.util.Set;
import java.util.TreeSet;

/** The public face: the constants, and every member with its types and exceptions, and no other. */
public final class FaceTest {
    private static final String[] FACE = {
        "void begin(int, int) IllegalArgumentException",
        "void coefficient(int, int, int) IndexOutOfBoundsException IllegalArgumentException",
        "void row(int, int, int) IndexOutOfBoundsException IllegalArgumentException",
        "void want(int, int) IndexOutOfBoundsException IllegalArgumentException",
        "void drift(int, int) IndexOutOfBoundsException IllegalArgumentException",
        "int solve()",
        "long value(int) IllegalStateException IllegalArgumentException",
        "long point(int, int) IllegalStateException IndexOutOfBoundsException IllegalArgumentException",
        "long range(int, boolean, int) IllegalStateException IndexOutOfBoundsException IllegalArgumentException"
            + " UnsupportedOperationException",
        "boolean tight(int) IllegalStateException IndexOutOfBoundsException",
        "int conflict() IllegalStateException",
        "int corners()",
        "long corner(int, int) IndexOutOfBoundsException IllegalArgumentException",
        "OPTIMAL", "INFEASIBLE", "UNBOUNDED", "new()",
    };

    private FaceTest() {
    }

    public static void main(String[] args) {
        Check check = new Check();
        check.due("OPTIMAL", 0, () -> RationalProgram.OPTIMAL);
        check.due("INFEASIBLE", 1, () -> RationalProgram.INFEASIBLE);
        check.due("UNBOUNDED", 2, () -> RationalProgram.UNBOUNDED);
        check.due("the face", new TreeSet<>(Arrays.asList(FACE)), FaceTest::openMembers);
        check.due("the class is public and final", Modifier.PUBLIC | Modifier.FINAL,
                () -> RationalProgram.class.getModifiers());
        check.finish();
    }

    private static Set<String> openMembers() {
        Set<String> open = new TreeSet<>();
        for (Method m : RationalProgram.class.getDeclaredMethods()) {
            if (!Modifier.isPrivate(m.getModifiers())) {
                open.add(m.getReturnType().getSimpleName() + " " + m.getName() + listed(m.getParameterTypes(), "(", ", ", ")")
                        + listed(m.getExceptionTypes(), m.getExceptionTypes().length == 0 ? "" : " ", " ", ""));
            }
        }
        for (Field f : RationalProgram.class.getDeclaredFields()) {
            if (!Modifier.isPrivate(f.getModifiers())) {
                open.add(f.getName());
            }
        }
        for (Constructor<?> c : RationalProgram.class.getDeclaredConstructors()) {
            if (!Modifier.isPrivate(c.getModifiers())) {
                open.add("new" + listed(c.getParameterTypes(), "(", ", ", ")"));
            }
        }
        return open;
    }

    private static String listed(Class<?>[] types, String before, String between, String after) {
        StringBuilder told = new StringBuilder(before);
        for (int k = 0; k < types.length; k++) {
            told.append(k == 0 ? "" : between).append(types[k].getSimpleName());
        }
        return told.append(after).toString();
    }
}
