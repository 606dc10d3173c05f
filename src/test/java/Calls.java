import java.lang.reflect.InvocationTargetException;
import java.lang.reflect.Method;
import java.util.Arrays;
import java.util.HashMap;
import java.util.Map;

/** An object of the class, or of its plain retelling, whose methods are called by their names. */
final class Calls {
    private static final Map<Class<?>, Map<String, Method>> METHODS = new HashMap<>();

    private final Object object;
    private final Map<String, Method> methods;
    private int made = 0;

    private Calls(Object object) {
        this.object = object;
        methods = METHODS.computeIfAbsent(object.getClass(), Calls::methodsOf);
    }

    static Calls ofDesk() {
        return new Calls(new TournamentDesk());
    }

    static Calls ofNaive() {
        return new Calls(new Naive());
    }

    private static Map<String, Method> methodsOf(Class<?> of) {
        Map<String, Method> all = new HashMap<>();
        for (Method face : TournamentDesk.class.getDeclaredMethods()) {
            if (java.lang.reflect.Modifier.isPublic(face.getModifiers())) {
                all.put(face.getName(), sameIn(of, face));
            }
        }
        return all;
    }

    private static Method sameIn(Class<?> of, Method face) {
        try {
            return of.getDeclaredMethod(face.getName(), face.getParameterTypes());
        } catch (NoSuchMethodException e) {
            throw new IllegalStateException(of + " has no " + face.getName(), e);
        }
    }

    int made() {
        return made;
    }

    /** More arguments than the method takes are left away. */
    int make(String name, int... arguments) {
        Method method = methods.get(name);
        if (method == null || arguments.length < method.getParameterCount()) {
            throw new IllegalArgumentException(name + Arrays.toString(arguments));
        }
        Object[] given = new Object[method.getParameterCount()];
        for (int i = 0; i < given.length; i++) {
            given[i] = arguments[i];
        }
        made++;
        try {
            return (Integer) method.invoke(object, given);
        } catch (IllegalAccessException | InvocationTargetException e) {
            throw new IllegalStateException(name + Arrays.toString(arguments) + " threw", e);
        }
    }
}
