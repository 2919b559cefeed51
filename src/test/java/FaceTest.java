import java.lang.reflect.Constructor;
import java.lang.reflect.Field;
import java.lang.reflect.Method;
import java.lang.reflect.Modifier;
import java.util.Arrays;
import java.util.HashSet;
import java.util.Map;
import java.util.Set;
import java.util.TreeMap;
import java.util.TreeSet;

/** The public face of the document, and rule 1 of LANGUAGE.md: nothing else is to be seen. */
public final class FaceTest {
    private static final Set<String> METHODS = Set.of(
            "int open(int, int, int)", "int make(int, int, int, boolean)", "int erase(int, int)",
            "int rename(int, int, int, int)", "int write(int, int, int)", "int read(int, int)", "int cut(int, int)",
            "int kind(int)", "int next(int, int)", "int size(int)", "int copies()", "int nodes()", "int save()",
            "int crash(int)");
    private static final Map<String, Integer> CONSTANTS = Map.of(
            "BAD", -1, "FULL", -2, "NOTHING", -3, "WRONG", -4, "THERE", -5, "BUSY", -6, "CIRCLE", -7, "OK", 0);

    public static void main(String[] args) throws IllegalAccessException {
        Due due = new Due();
        Class<?> face = ExtentFileTree.class;
        due.is("modifiers of the class", face.getModifiers(), Modifier.PUBLIC | Modifier.FINAL);
        due.is("nested classes", face.getDeclaredClasses().length, 0);
        due.same("super class", face.getSuperclass(), Object.class);
        due.is("interfaces", face.getInterfaces().length, 0);
        constructors(due, face);
        methods(due, face);
        fields(due, face);
        due.end();
    }

    private static void constructors(Due due, Class<?> face) {
        Constructor<?>[] all = face.getDeclaredConstructors();
        due.is("constructors", all.length, 1);
        due.is("modifiers of the constructor", all[0].getModifiers(), Modifier.PUBLIC);
        due.is("parameters of the constructor", all[0].getParameterCount(), 0);
    }

    private static void methods(Due due, Class<?> face) {
        Set<String> open = new TreeSet<>();
        Set<String> openNames = new HashSet<>();
        Set<String> hiddenNames = new HashSet<>();
        for (Method method : face.getDeclaredMethods()) {
            if (Modifier.isPrivate(method.getModifiers())) {
                hiddenNames.add(method.getName());
                continue;
            }
            due.is("modifiers of " + method.getName(), method.getModifiers(), Modifier.PUBLIC);
            openNames.add(method.getName());
            String parameters = Arrays.toString(method.getParameterTypes()).replace('[', '(').replace(']', ')');
            open.add(method.getReturnType() + " " + method.getName() + parameters);
        }
        due.same("methods", open, new TreeSet<>(METHODS));
        hiddenNames.retainAll(openNames);
        due.same("private methods with the name of a public one", hiddenNames, Set.of());
    }

    private static void fields(Due due, Class<?> face) throws IllegalAccessException {
        Map<String, Integer> constants = new TreeMap<>();
        for (Field field : face.getDeclaredFields()) {
            int modifiers = field.getModifiers();
            if (Modifier.isPrivate(modifiers)) {
                continue;
            }
            due.is("modifiers of " + field.getName(), modifiers, Modifier.PUBLIC | Modifier.STATIC | Modifier.FINAL);
            due.same("type of " + field.getName(), field.getType(), int.class);
            constants.put(field.getName(), field.getInt(null));
        }
        due.same("constants", constants, new TreeMap<>(CONSTANTS));
    }
}
