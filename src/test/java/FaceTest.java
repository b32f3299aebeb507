import java.lang.reflect.Constructor;
import java.lang.reflect.Field;
import java.lang.reflect.Method;
import java.lang.reflect.Modifier;
import java.util.Map;
import java.util.Set;
import java.util.TreeMap;
import java.util.TreeSet;

/** The public face of the document: every constant and call of it, and nothing beside. */
public final class FaceTest {
    private FaceTest() {
    }

    public static void main(String[] args) throws IllegalAccessException {
        Class<?> face = RecoveryLine.class;
        Checks.due("the class is public", Modifier.isPublic(face.getModifiers()), true);
        Checks.due("the class is final", Modifier.isFinal(face.getModifiers()), true);
        Checks.due("nested classes", face.getDeclaredClasses().length, 0);
        constants(face);
        methods(face);
        constructors(face);
        Checks.finish();
    }

    private static void constants(Class<?> face) throws IllegalAccessException {
        Map<String, Integer> found = new TreeMap<>();
        for (Field field : face.getDeclaredFields()) {
            int modifiers = field.getModifiers();
            if (Modifier.isPrivate(modifiers)) {
                continue;
            }
            Checks.due(field + " is a public constant", modifiers, Modifier.PUBLIC | Modifier.STATIC | Modifier.FINAL);
            Checks.same(field + " is an int", field.getType(), int.class);
            found.put(field.getName(), field.getInt(null));
        }
        Map<String, Integer> due = new TreeMap<>(Map.of("OK", 0, "BAD", -1, "DOWN", -2, "FULL", -3,
                "NONE", -4, "LIMIT", -5, "NOW", 1000, "MAX_NUMBER", 99, "EMPTY", 0, "IN_TRANSIT", 1));
        due.put("RECEIVED", 2);
        Checks.same("constants", found, due);
    }

    private static void methods(Class<?> face) {
        Set<String> found = new TreeSet<>();
        Set<String> hidden = new TreeSet<>();
        for (Method method : face.getDeclaredMethods()) {
            if (Modifier.isPrivate(method.getModifiers())) {
                hidden.add(method.getName());
            } else {
                Checks.due(method + " is public and no more", method.getModifiers(), Modifier.PUBLIC);
                found.add(describe(method));
            }
        }
        Set<String> due = new TreeSet<>();
        for (Method method : Calls.class.getDeclaredMethods()) {
            due.add(describe(method));
            Checks.due("a private method is named " + method.getName(), hidden.contains(method.getName()), false);
        }
        Checks.due("calls", due.size(), 16);
        Checks.same("methods", found, due);
    }

    private static String describe(Method method) {
        StringBuilder text = new StringBuilder(method.getReturnType() + " " + method.getName());
        for (Class<?> parameter : method.getParameterTypes()) {
            text.append(' ').append(parameter);
        }
        return text.toString();
    }

    private static void constructors(Class<?> face) {
        Constructor<?>[] found = face.getDeclaredConstructors();
        Checks.due("constructors", found.length, 1);
        Checks.same("constructor", found[0].toString(), "public RecoveryLine(int,int,int)");
    }
}
