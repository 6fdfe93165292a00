import java.lang.reflect.Constructor;
import java.lang.reflect.Field;
import java.lang.reflect.Method;
import java.lang.reflect.Modifier;
import java.util.Arrays;
import java.util.Set;
import java.util.TreeSet;

/** The public face, as the document gives it, and no other member that is not private. */
public final class FaceTest {
    private static final String[] METHODS = {"begin(int)int", "write(int,int,int)int", "erase(int,int)int",
        "read(int,int)int", "peek(int,int)int", "countRange(int,int,int)int", "commit(int)int", "abort(int)int",
        "latest()int", "has(int,int)boolean", "at(int,int)int", "size(int)int", "changed(int,int)int"};
    private static final String[] CONSTANTS = {"BAD=-1", "OPEN=-2", "CLOSED=-3", "FULL=-4", "CONFLICT=-5", "GONE=-6"};
    private static final Set<Class<?>> FIELD_TYPES = Set.of(int.class, long.class, short.class, byte.class,
        char.class, boolean.class, int[].class, long[].class, short[].class, byte[].class, char[].class,
        boolean[].class);

    public static void main(String[] args) throws IllegalAccessException {
        Class<?> face = MeldLog.class;
        Checks.due("modifiers of the class", face.getModifiers(), Modifier.PUBLIC | Modifier.FINAL);
        Checks.due("nested classes", face.getDeclaredClasses().length, 0);
        Checks.holds("no superclass or interface", face.getSuperclass() == Object.class
            && face.getInterfaces().length == 0);
        constructor(face.getDeclaredConstructors());
        methods(face.getDeclaredMethods());
        fields(face.getDeclaredFields());
        Checks.finish();
    }

    private static void constructor(Constructor<?>[] constructors) {
        Checks.due("constructors", constructors.length, 1);
        Checks.due("modifiers of the constructor", constructors[0].getModifiers(), Modifier.PUBLIC);
        Checks.due("parameters of the constructor", constructors[0].getParameterCount(), 0);
    }

    private static String signature(Method method) {
        StringBuilder text = new StringBuilder(method.getName()).append('(');
        for (Class<?> type : method.getParameterTypes()) {
            text.append(text.charAt(text.length() - 1) == '(' ? "" : ",").append(type.getName());
        }
        return text.append(')').append(method.getReturnType().getName()).toString();
    }

    private static void methods(Method[] methods) {
        Set<String> open = new TreeSet<>();
        Set<String> openNames = new TreeSet<>();
        for (Method method : methods) {
            if (!Modifier.isPrivate(method.getModifiers())) {
                Checks.due("modifiers of " + method.getName(), method.getModifiers(), Modifier.PUBLIC);
                open.add(signature(method));
                openNames.add(method.getName());
            }
        }
        Checks.holds("the methods are " + open, open.equals(new TreeSet<>(Arrays.asList(METHODS))));
        for (Method method : methods) {
            Checks.holds(method.getName() + " has at most seven parameters", method.getParameterCount() <= 7);
            if (Modifier.isPrivate(method.getModifiers())) {
                Checks.holds(method.getName() + " is no public name", !openNames.contains(method.getName()));
                Checks.holds(method.getName() + " answers no array", !method.getReturnType().isArray());
            }
        }
    }

    private static void fields(Field[] fields) throws IllegalAccessException {
        Set<String> open = new TreeSet<>();
        int instanceFields = 0;
        for (Field field : fields) {
            int modifiers = field.getModifiers();
            Checks.holds(field.getName() + " has an allowed type", FIELD_TYPES.contains(field.getType()));
            if (Modifier.isStatic(modifiers)) {
                Checks.holds(field.getName() + " is a constant", Modifier.isFinal(modifiers)
                    && (field.getType() == int.class || field.getType() == long.class));
            } else {
                instanceFields++;
            }
            if (!Modifier.isPrivate(modifiers)) {
                int constant = Modifier.PUBLIC | Modifier.STATIC | Modifier.FINAL;
                Checks.due("modifiers of " + field.getName(), modifiers, constant);
                open.add(field.getName() + "=" + field.get(null));
            }
        }
        Checks.holds("the constants are " + open, open.equals(new TreeSet<>(Arrays.asList(CONSTANTS))));
        Checks.holds("at most forty fields", instanceFields <= 40);
    }
}
