import java.lang.reflect.Constructor;
import java.lang.reflect.Field;
import java.lang.reflect.Method;
import java.lang.reflect.Modifier;
import java.util.Map;
import java.util.Set;
import java.util.TreeSet;

/** The public face: the constants, the constructor and the methods of the document, and no other open member. */
public final class FaceTest {
    private static final Map<String, Integer> CONSTANTS = Map.of(
        "BAD", -1, "FULL", -2, "IDLE", 0, "RUNNING", 1, "HALTED", 2, "TRAPPED", 3);

    private static final Set<String> METHODS = Set.of(
        "public int ReorderCore.emit(int,int,int)",
        "public void ReorderCore.clear()",
        "public int ReorderCore.length()",
        "public boolean ReorderCore.set(int,int)",
        "public void ReorderCore.start(int)",
        "public int ReorderCore.finish(int)",
        "public int ReorderCore.status()",
        "public int ReorderCore.position()",
        "public int ReorderCore.finished()",
        "public int ReorderCore.register(int)",
        "public int ReorderCore.memory(int)",
        "public int ReorderCore.digest()");

    private static int wrong = 0;

    private static void check(boolean right, String what) {
        if (!right) {
            wrong++;
            System.out.println("wrong: " + what);
        }
    }

    private static void checkFields() throws IllegalAccessException {
        Set<String> open = new TreeSet<>();
        for (Field field : ReorderCore.class.getDeclaredFields()) {
            int modifiers = field.getModifiers();
            if (Modifier.isStatic(modifiers)) {
                boolean number = field.getType() == int.class || field.getType() == long.class;
                check(Modifier.isFinal(modifiers) && number, "static field " + field);
            }
            if (Modifier.isPrivate(modifiers)) {
                continue;
            }
            open.add(field.getName());
            Integer due = CONSTANTS.get(field.getName());
            check(due != null && Modifier.isStatic(modifiers) && Modifier.isPublic(modifiers)
                && field.getType() == int.class && field.getInt(null) == due, "field " + field);
        }
        check(open.equals(CONSTANTS.keySet()), "constants " + open);
    }

    private static void checkMethods() {
        Set<String> open = new TreeSet<>();
        Set<String> openNames = new TreeSet<>();
        for (Method method : ReorderCore.class.getDeclaredMethods()) {
            if (!Modifier.isPrivate(method.getModifiers())) {
                open.add(method.toString());
                openNames.add(method.getName());
            }
        }
        check(open.equals(METHODS), "methods " + open);
        for (Method method : ReorderCore.class.getDeclaredMethods()) {
            if (Modifier.isPrivate(method.getModifiers())) {
                check(!openNames.contains(method.getName()), "private method with a public name: " + method);
            }
            check(method.getParameterCount() <= 7, "too many parameters: " + method);
        }
    }

    public static void main(String[] args) throws IllegalAccessException {
        check(Modifier.isPublic(ReorderCore.class.getModifiers()), "the class is public");
        check(Modifier.isFinal(ReorderCore.class.getModifiers()), "the class is final");
        check(ReorderCore.class.getDeclaredClasses().length == 0, "no nested class");
        Constructor<?>[] constructors = ReorderCore.class.getDeclaredConstructors();
        check(constructors.length == 1 && constructors[0].toString().equals("public ReorderCore()"), "one constructor");
        checkFields();
        checkMethods();
        System.out.println(wrong == 0 ? "the face is as due" : wrong + " wrong");
        if (wrong != 0) {
            System.exit(1);
        }
    }
}
