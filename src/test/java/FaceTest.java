import java.lang.reflect.Constructor;
import java.lang.reflect.Executable;
import java.lang.reflect.Field;
import java.lang.reflect.Method;
import java.lang.reflect.Modifier;
import java.util.Arrays;
import java.util.Set;
import java.util.TreeSet;
import java.util.stream.Collectors;

/**
 * The public face as the document's code block has it: every member with its modifiers, types, names and exceptions in
 * their order, and no other. To be compiled with -parameters, without which the names are not there to be seen.
 */
public final class FaceTest {
    private static final String FACE = """
            public final class RationalProgram {
                public static final int OPTIMAL = 0, INFEASIBLE = 1, UNBOUNDED = 2;
                public RationalProgram();
                public void begin(int n, int m) throws IllegalArgumentException;
                public void coefficient(int i, int j, int v) throws IndexOutOfBoundsException, IllegalArgumentException;
                public void row(int i, int sense, int right) throws IndexOutOfBoundsException, IllegalArgumentException;
                public void want(int j, int v) throws IndexOutOfBoundsException, IllegalArgumentException;
                public void drift(int i, int v) throws IndexOutOfBoundsException, IllegalArgumentException;
                public int solve();
                public long value(int what) throws IllegalStateException, IllegalArgumentException;
                public long point(int j, int what) throws IllegalStateException, IndexOutOfBoundsException, \
            IllegalArgumentException;
                public long range(int j, boolean high, int what) throws IllegalStateException, \
            IndexOutOfBoundsException, IllegalArgumentException, UnsupportedOperationException;
                public boolean tight(int i) throws IllegalStateException, IndexOutOfBoundsException;
                public int conflict() throws IllegalStateException;
                public int corners();
                public long corner(int k, int what) throws IndexOutOfBoundsException, IllegalArgumentException;
            }
            """;
    private static final Class<RationalProgram> SEEN = RationalProgram.class;
    private static final Check CHECK = new Check();

    private FaceTest() {
    }

    public static void main(String[] args) {
        CHECK.due("the document has another code block", false, () -> Document.lacks("The public face", FACE));
        CHECK.sentence("The public face", "public final class RationalProgram {", FaceTest::membersAreAsWritten);
        CHECK.sentence("The public face", "OPTIMAL = 0, INFEASIBLE = 1, UNBOUNDED = 2", FaceTest::constants);
        CHECK.sentence("The public face", "public final class RationalProgram {", FaceTest::classesInside);
        CHECK.finish();
    }

    private static void membersAreAsWritten() {
        Set<String> due = new TreeSet<>();
        for (String line : FACE.split("\n")) {
            String member = line.strip().replaceAll(" \\{$|;$", "");
            if (member.contains(" = ")) {
                due.addAll(Arrays.asList(member.replace(", ", ",public static final int ").split(",")));
            } else if (!member.equals("}")) {
                due.add(member);
            }
        }
        Set<String> open = openMembers();
        for (String member : due) {
            CHECK.due(member + " is there", true, () -> open.contains(member));
        }
        for (String member : open) {
            CHECK.due(member + " may be there", true, () -> due.contains(member));
        }
    }

    private static void constants() {
        CHECK.due("OPTIMAL", 0, () -> RationalProgram.OPTIMAL);
        CHECK.due("INFEASIBLE", 1, () -> RationalProgram.INFEASIBLE);
        CHECK.due("UNBOUNDED", 2, () -> RationalProgram.UNBOUNDED);
    }

    /** Nothing more of it is open by way of another class either, nor may a name mean a public and a private method. */
    private static void classesInside() {
        CHECK.due("what it extends", Object.class, SEEN::getSuperclass);
        CHECK.due("how many interfaces it has", 0, () -> SEEN.getInterfaces().length);
        for (Class<?> inside : SEEN.getDeclaredClasses()) {
            int modifiers = inside.getModifiers();
            CHECK.due(inside + " is closed and static", true, () -> Modifier.isStatic(modifiers)
                    && !Modifier.isPublic(modifiers) && !Modifier.isProtected(modifiers));
        }
        Set<String> open = Arrays.stream(SEEN.getMethods()).map(Method::getName).collect(Collectors.toSet());
        for (Method m : SEEN.getDeclaredMethods()) {
            CHECK.due(m + " has a name of its own", true,
                    () -> !Modifier.isPrivate(m.getModifiers()) || !open.contains(m.getName()));
        }
    }

    private static boolean isOpen(int modifiers) {
        return !Modifier.isPrivate(modifiers);
    }

    private static Set<String> openMembers() {
        Set<String> open = new TreeSet<>();
        open.add(Modifier.toString(SEEN.getModifiers()) + " class " + SEEN.getName());
        for (Method m : SEEN.getDeclaredMethods()) {
            if (isOpen(m.getModifiers())) {
                open.add(told(m, m.getReturnType().getSimpleName() + " " + m.getName()));
            }
        }
        for (Constructor<?> c : SEEN.getDeclaredConstructors()) {
            if (isOpen(c.getModifiers())) {
                open.add(told(c, SEEN.getSimpleName()));
            }
        }
        for (Field f : SEEN.getDeclaredFields()) {
            if (isOpen(f.getModifiers())) {
                open.add(told(f));
            }
        }
        return open;
    }

    private static String told(Executable e, String name) {
        String parameters = Arrays.stream(e.getParameters())
                .map(p -> p.getType().getSimpleName() + " " + p.getName()).collect(Collectors.joining(", "));
        String exceptions = Arrays.stream(e.getExceptionTypes())
                .map(Class::getSimpleName).collect(Collectors.joining(", "));
        return Modifier.toString(e.getModifiers()) + " " + name + "(" + parameters + ")"
                + (exceptions.isEmpty() ? "" : " throws " + exceptions);
    }

    private static String told(Field f) {
        String kind = Modifier.toString(f.getModifiers()) + " " + f.getType().getSimpleName() + " " + f.getName();
        return kind + " = " + valueOf(f);
    }

    private static Object valueOf(Field f) {
        try {
            return Modifier.isStatic(f.getModifiers()) ? f.get(null) : "a field of each object";
        } catch (IllegalAccessException e) {
            throw new IllegalStateException(e);
        }
    }
}
