import java.lang.reflect.Constructor;
import java.lang.reflect.Field;
import java.lang.reflect.Method;
import java.lang.reflect.Modifier;
import java.util.Map;
import java.util.Set;
import java.util.TreeMap;
import java.util.TreeSet;

/** The document's public face, and nothing beside it that is not private (rules 1, 2 and 11). */
public final class FaceTest {
    private static final String METHODS = "reset/1 setResult/2 setWeight/3 reverseTriangle/3 reversePath/2 "
        + "reversePlayer/1 exchange/2 construct/0 enter/0 recall/0 undo/0 append/1 clearSequence/0 "
        + "checkSequence/0 type/1 clearText/0 fault/0 players/0 beats/2 weight/2 score/1 scoreAt/1 "
        + "triangles/0 distance/2 components/0 componentOf/1 spanningPaths/0 pathAt/1 cycleAt/3 "
        + "cycleLengths/1 leastCost/0 orderAt/1 winners/1 undisputed/0 store/0 difference/0 isLikeStored/0 "
        + "towardsStored/0";
    private static final Map<String, Integer> CONSTANTS = Map.of("INVALID_ARGUMENT", -1, "NOT_POSSIBLE", -2,
        "LIMIT_REACHED", -3, "NOT_FOUND", -4, "TOP", 0, "KINGS", 1, "SCORES", 2, "CHAINS", 3, "ORDER", 4);

    public static void main(String[] args) throws IllegalAccessException {
        Class<?> desk = TournamentDesk.class;
        Check.due("public and final", desk.getModifiers(), Modifier.PUBLIC | Modifier.FINAL);
        Check.holds("of no other class", desk.getSuperclass() == Object.class && desk.getInterfaces().length == 0);
        constructors(desk);
        methods(desk);
        constants(desk);
        Check.holds("some twelve classes", desk.getDeclaredClasses().length <= 12);
        for (Class<?> inside : desk.getDeclaredClasses()) {
            inside(desk, inside);
        }
        Check.end();
    }

    private static void constructors(Class<?> desk) {
        Constructor<?>[] all = desk.getDeclaredConstructors();
        Check.due("constructors", all.length, 1);
        Check.due("its parameters", all[0].getParameterCount(), 0);
        Check.due("public constructor", all[0].getModifiers(), Modifier.PUBLIC);
    }

    private static void methods(Class<?> desk) {
        Set<String> open = new TreeSet<>();
        for (Method method : desk.getDeclaredMethods()) {
            int modifiers = method.getModifiers();
            if (Modifier.isPublic(modifiers)) {
                open.add(method.getName() + "/" + method.getParameterCount());
                Check.due("modifiers of " + method, modifiers, Modifier.PUBLIC);
                Check.holds("int from " + method, method.getReturnType() == int.class);
                for (Class<?> parameter : method.getParameterTypes()) {
                    Check.holds("int for " + method, parameter == int.class);
                }
            } else {
                Check.holds("private " + method, Modifier.isPrivate(modifiers));
                ownName(desk, method);
            }
        }
        Check.holds("methods " + open, open.equals(new TreeSet<>(Set.of(METHODS.split(" ")))));
    }

    private static void ownName(Class<?> desk, Method method) {
        for (Method other : desk.getMethods()) {
            Check.holds("a name of its own: " + method, !other.getName().equals(method.getName()));
        }
        Check.holds("at most seven parameters: " + method, method.getParameterCount() <= 7);
    }

    private static void constants(Class<?> desk) throws IllegalAccessException {
        Map<String, Integer> open = new TreeMap<>();
        for (Field field : desk.getDeclaredFields()) {
            int modifiers = field.getModifiers();
            Check.holds("final if static: " + field, !Modifier.isStatic(modifiers) || Modifier.isFinal(modifiers));
            if (Modifier.isPublic(modifiers)) {
                Check.due("modifiers of " + field, modifiers, Modifier.PUBLIC | Modifier.STATIC | Modifier.FINAL);
                Check.holds("int: " + field, field.getType() == int.class);
                open.put(field.getName(), field.getInt(null));
            } else {
                Check.holds("private " + field, Modifier.isPrivate(modifiers));
            }
        }
        Check.holds("constants " + open, open.equals(CONSTANTS));
    }

    private static void inside(Class<?> desk, Class<?> inside) {
        int modifiers = inside.getModifiers();
        Check.holds("static " + inside, Modifier.isStatic(modifiers));
        Check.holds("private " + inside, Modifier.isPrivate(modifiers));
        Check.holds("some twenty fields " + inside, inside.getDeclaredFields().length <= 20);
        for (Method method : inside.getDeclaredMethods()) {
            ownName(desk, method);
        }
        for (Field field : inside.getDeclaredFields()) {
            Check.holds("no static state " + field, !Modifier.isStatic(field.getModifiers()));
        }
    }
}
