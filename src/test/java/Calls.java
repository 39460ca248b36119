import java.lang.reflect.InvocationTargetException;
import java.lang.reflect.Method;
import java.lang.reflect.Modifier;
import java.util.HashMap;
import java.util.Map;
import java.util.Set;

/** Calls the methods of the face by their names. */
final class Calls {
    private static final Map<String, Method> METHODS = new HashMap<>();

    static {
        for (Method method : PeriscopeTrain.class.getDeclaredMethods()) {
            if (Modifier.isPublic(method.getModifiers())) {
                METHODS.put(method.getName(), method);
            }
        }
    }

    private Calls() {
    }

    /** The answer as a text; the name of an exception that the call throws stands behind "throws.". */
    static String answer(PeriscopeTrain x, String name, Integer... arguments) throws IllegalAccessException {
        try {
            return String.valueOf(METHODS.get(name).invoke(x, (Object[]) arguments));
        } catch (InvocationTargetException e) {
            return "throws." + e.getCause().getClass().getSimpleName();
        }
    }

    static Set<String> names() {
        return METHODS.keySet();
    }
}
