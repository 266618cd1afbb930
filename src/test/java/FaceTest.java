import java.lang.reflect.Constructor;
import java.lang.reflect.Field;
import java.lang.reflect.Method;
import java.lang.reflect.Modifier;
import java.util.Set;
import java.util.TreeSet;

/** The public face is the document's, with nothing beside it that is not private. */
public final class FaceTest {
    private static final Set<String> METHODS = Set.of(
            "set/4", "marks/0", "sign/2", "cellOf/2", "zeros/1", "condition/2", "not/0", "join/1",
            "discard/0", "some/0", "every/0", "pieces/0", "points/0", "holds/1", "at/2", "same/0",
            "implies/0");
    private static final Set<String> CONSTANTS = Set.of("BAD_ARG", "FULL", "TOO_FEW", "NONE");

    public static void main(String[] args) {
        Due due = new Due();
        due.is("BAD_ARG", RealSigns.BAD_ARG, -1000);
        due.is("FULL", RealSigns.FULL, -1001);
        due.is("TOO_FEW", RealSigns.TOO_FEW, -1002);
        due.is("NONE", RealSigns.NONE, -1003);
        due.is("class is public and final", RealSigns.class.getModifiers(),
                Modifier.PUBLIC | Modifier.FINAL);
        methods(due);
        constants(due);
        constructor(due);
        nothingInherited(due);
        due.end();
    }

    private static void constructor(Due due) {
        Constructor<?>[] constructors = RealSigns.class.getDeclaredConstructors();
        due.is("constructors", constructors.length, 1);
        due.is("constructor is public", constructors[0].getModifiers(), Modifier.PUBLIC);
        due.is("constructor's parameters", constructors[0].getParameterCount(), 0);
    }

    private static void nothingInherited(Due due) {
        due.is("extends Object alone", RealSigns.class.getSuperclass() == Object.class ? 1 : 0, 1);
        due.is("interfaces", RealSigns.class.getInterfaces().length, 0);
        due.is("nested classes", RealSigns.class.getDeclaredClasses().length, 0);
        due.is("package", RealSigns.class.getPackageName().length(), 0);
    }

    private static void methods(Due due) {
        Set<String> seen = new TreeSet<>();
        for (Method m : RealSigns.class.getDeclaredMethods()) {
            if (Modifier.isPrivate(m.getModifiers())) {
                continue;
            }
            String name = m.getName() + "/" + m.getParameterCount();
            seen.add(name);
            due.is(name + " is in the document", METHODS.contains(name) ? 1 : 0, 1);
            due.is(name + " is public alone", m.getModifiers(), Modifier.PUBLIC);
            due.is(name + " answers int", m.getReturnType() == int.class ? 1 : 0, 1);
            due.is(name + " throws", m.getExceptionTypes().length, 0);
            for (Class<?> type : m.getParameterTypes()) {
                due.is(name + " takes int", type == int.class ? 1 : 0, 1);
            }
        }
        due.is("methods", seen.size(), METHODS.size());
    }

    private static void constants(Due due) {
        int count = 0;
        for (Field f : RealSigns.class.getDeclaredFields()) {
            if (!Modifier.isPrivate(f.getModifiers())) {
                count++;
                due.is(f.getName() + " is in the document", CONSTANTS.contains(f.getName()) ? 1 : 0, 1);
                due.is(f.getName() + " is a public constant", f.getModifiers(),
                        Modifier.PUBLIC | Modifier.STATIC | Modifier.FINAL);
                due.is(f.getName() + " is an int", f.getType() == int.class ? 1 : 0, 1);
            }
        }
        due.is("constants", count, CONSTANTS.size());
    }
}
