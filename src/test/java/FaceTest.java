import java.lang.reflect.Constructor;
import java.lang.reflect.Field;
import java.lang.reflect.Method;
import java.lang.reflect.Modifier;
import java.util.Set;
import java.util.TreeSet;

/** The class shows the public face of the document and no more; no object shares anything with another one. */
public final class FaceTest {
    private static final Due due = new Due("FaceTest");
    private static final Set<String> FACE = Set.of("state/1", "sow/3", "retract/1", "need/1", "extra/1", "condition/3",
        "drop/0", "clear/0", "statements/0", "matching/1", "solutions/0", "next/1", "isSolution/1", "values/1",
        "having/2", "pairs/2", "vital/0");

    public static void main(String[] args) {
        int modifiers = TripleJoins.class.getModifiers();
        due.holds("the class is public and final", Modifier.isPublic(modifiers) && Modifier.isFinal(modifiers));
        due.holds("no nested class", TripleJoins.class.getDeclaredClasses().length == 0);
        constructors();
        methods();
        fields();
        due.end();
    }

    private static void constructors() {
        Constructor<?>[] constructors = TripleJoins.class.getDeclaredConstructors();
        due.is("number of constructors", constructors.length, 1);
        due.holds("the constructor is public and without parameters",
            Modifier.isPublic(constructors[0].getModifiers()) && constructors[0].getParameterCount() == 0);
    }

    private static void methods() {
        Set<String> open = new TreeSet<>();
        for (Method method : TripleJoins.class.getDeclaredMethods()) {
            if (Modifier.isPrivate(method.getModifiers())) {
                due.holds(method + " bears no public name",
                    FACE.stream().noneMatch(face -> face.startsWith(method.getName() + "/")));
                continue;
            }
            open.add(method.getName() + "/" + method.getParameterCount());
            due.holds(method + " is public, of an object, and answers an int",
                Modifier.isPublic(method.getModifiers()) && !Modifier.isStatic(method.getModifiers())
                && method.getReturnType() == int.class);
            for (Class<?> parameter : method.getParameterTypes()) {
                due.holds(method + " takes ints", parameter == int.class);
            }
        }
        due.holds("the methods are those of the document, not " + open, open.equals(FACE));
    }

    private static void fields() {
        for (Field field : TripleJoins.class.getDeclaredFields()) {
            int modifiers = field.getModifiers();
            due.holds(field + " is private", Modifier.isPrivate(modifiers));
            due.holds(field + " is a constant if it is static", !Modifier.isStatic(modifiers)
                || Modifier.isFinal(modifiers) && (field.getType() == int.class || field.getType() == long.class));
        }
    }
}
