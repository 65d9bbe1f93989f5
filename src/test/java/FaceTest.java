import java.lang.reflect.Field;
import java.lang.reflect.Method;
import java.lang.reflect.Modifier;
import java.util.Set;
import java.util.TreeSet;

/** The public face: constants, constructor, methods, and nothing else that can be seen. */
public final class FaceTest {
    private static final String[] METHODS = {
        "write/1", "erase/0", "fault/0", "mesh/0", "station/2", "slot/2", "cycle/1", "frame/1", "give/2", "join/2",
        "part/2", "undo/0", "keep/1", "back/1", "phase/1", "after/0", "spoils/2", "fewest/0", "hops/2", "tally/5",
        "append/2", "reckon/2", "pop/1", "each/2", "drop/1", "told/1"};

    public static void main(String[] args) {
        Check check = new Check("FaceTest");
        constants(check);
        int shape = SlotMesh.class.getModifiers();
        check.due("public and final", Modifier.isPublic(shape) && Modifier.isFinal(shape));
        check.due("constructors", SlotMesh.class.getDeclaredConstructors().length, 1);
        check.due("its parameters", SlotMesh.class.getDeclaredConstructors()[0].getParameterCount(), 0);
        Set<String> wanted = new TreeSet<>(Set.of(METHODS));
        Set<String> found = new TreeSet<>();
        for (Method method : SlotMesh.class.getDeclaredMethods()) {
            int how = method.getModifiers();
            if (!Modifier.isPrivate(how)) {
                found.add(method.getName() + "/" + method.getParameterCount());
                check.due(method + " is public, answers an int", Modifier.isPublic(how) && method.getReturnType() == int.class);
            } else {
                for (String name : METHODS) {
                    check.due(method + " is not named as " + name, !name.startsWith(method.getName() + "/"));
                }
            }
        }
        check.due("methods " + found, found.equals(wanted));
        classesInside(check);
        for (Field field : SlotMesh.class.getDeclaredFields()) {
            int how = field.getModifiers();
            check.due(field + " hidden or a constant", Modifier.isPrivate(how) || Modifier.isStatic(how) && Modifier.isFinal(how));
        }
        check.end();
    }

    private static void classesInside(Check check) {
        for (Class<?> inside : SlotMesh.class.getDeclaredClasses()) {
            int how = inside.getModifiers();
            check.due(inside + " is static and not public", Modifier.isStatic(how) && !Modifier.isPublic(how) && !Modifier.isProtected(how));
            check.due(inside + " has some twenty fields at most", inside.getDeclaredFields().length <= 20);
            for (Method method : inside.getDeclaredMethods()) {
                check.due(method + " takes seven at most", method.getParameterCount() <= 7);
                for (String name : METHODS) {
                    check.due(method + " is not named as " + name, !name.startsWith(method.getName() + "/"));
                }
            }
        }
    }

    private static void constants(Check check) {
        check.due("NONE", SlotMesh.NONE, -1);
        check.due("UNKNOWN", SlotMesh.UNKNOWN, -2);
        check.due("OUTSIDE", SlotMesh.OUTSIDE, -3);
        check.due("NOT", SlotMesh.NOT, -4);
        check.due("FULL", SlotMesh.FULL, -5);
        check.due("NULL", SlotMesh.NULL, -11);
        check.due("EMPTY", SlotMesh.EMPTY, -12);
        check.due("ROOM", SlotMesh.ROOM, -13);
    }
}
