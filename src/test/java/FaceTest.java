import java.lang.reflect.Constructor;
import java.lang.reflect.Field;
import java.lang.reflect.Method;
import java.lang.reflect.Modifier;
import java.util.ArrayList;
import java.util.Arrays;
import java.util.Collections;
import java.util.List;

/** The public face: the document's constructor and methods, with their exceptions, and no other member to be seen. */
public final class FaceTest {
    private static final String NSE = "NoSuchElementException";
    private static final String IAE = "IllegalArgumentException";
    private static final String UOE = "UnsupportedOperationException";
    private static final String IOB = "IndexOutOfBoundsException";

    public static void main(String[] args) {
        Checks checks = new Checks("FaceTest");
        Class<?> face = StructureRows.class;
        checks.same("public and final", face.getModifiers() & (Modifier.PUBLIC | Modifier.FINAL),
                Modifier.PUBLIC | Modifier.FINAL);

        List<String> constructors = new ArrayList<>();
        for (Constructor<?> c : face.getDeclaredConstructors()) {
            constructors.add(Modifier.isPublic(c.getModifiers()) + " " + Arrays.toString(c.getParameterTypes()));
        }
        checks.same("constructors", constructors, List.of("true []"));

        List<String> due = new ArrayList<>(List.of(
                "element[int, int]" + List.of(NSE, IAE, UOE), "map[int, int]" + List.of(IAE),
                "content[int, int, int]" + List.of(NSE, IAE, UOE), "shows[int, int]" + List.of(IAE),
                "walk[]" + List.of(), "at[int, int]" + List.of(IOB), "parent[int, int]" + List.of(IAE),
                "check[]" + List.of(), "fault[int, int]" + List.of(IOB), "heading[int, int]" + List.of(NSE, IAE)));
        due.addAll(List.of("words[int, boolean]" + List.of(NSE), "span[int, int, int]" + List.of(NSE, IAE),
                "outline[int, int]" + List.of(IOB), "untagged[int]" + List.of(IOB)));
        Collections.sort(due);
        checks.same("methods", seenMethods(face), due);

        List<String> fields = new ArrayList<>();
        for (Field f : face.getDeclaredFields()) {
            if (!Modifier.isPrivate(f.getModifiers())) {
                fields.add(f.getName());
            }
        }
        checks.same("fields to be seen", fields, List.of());

        List<String> inner = new ArrayList<>();
        for (Class<?> c : face.getDeclaredClasses()) {
            if (Modifier.isPublic(c.getModifiers()) || !Modifier.isStatic(c.getModifiers())) {
                inner.add(c.getName());
            }
        }
        checks.same("classes inside that are public or not static", inner, List.of());
        checks.end();
    }

    private static List<String> seenMethods(Class<?> face) {
        List<String> seen = new ArrayList<>();
        for (Method m : face.getDeclaredMethods()) {
            if (Modifier.isPrivate(m.getModifiers())) {
                continue;
            }
            List<String> thrown = new ArrayList<>();
            for (Class<?> e : m.getExceptionTypes()) {
                thrown.add(e.getSimpleName());
            }
            boolean plain = Modifier.isPublic(m.getModifiers()) && !Modifier.isStatic(m.getModifiers())
                    && m.getReturnType() == int.class;
            seen.add((plain ? "" : "odd ") + m.getName() + Arrays.toString(m.getParameterTypes()) + thrown);
        }
        Collections.sort(seen);
        return seen;
    }
}
