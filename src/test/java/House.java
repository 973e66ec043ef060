import java.lang.reflect.InvocationTargetException;
import java.lang.reflect.Method;
import java.lang.reflect.Modifier;
import java.util.HashMap;
import java.util.Map;

/** An object of the class or of the reference; its calls go by their names, so that both can be played alike. */
final class House {
    private static final Map<Class<?>, Map<String, Method>> CALLS = new HashMap<>();

    private final Object object;
    private final Map<String, Method> calls;

    House(Object object) {
        this.object = object;
        this.calls = CALLS.computeIfAbsent(object.getClass(), House::callsOf);
    }

    /** The calls have names of their own, but the reference has private functions with the same names. */
    private static Map<String, Method> callsOf(Class<?> made) {
        Map<String, Method> calls = new HashMap<>();
        for (Method method : made.getDeclaredMethods()) {
            if (!Modifier.isPrivate(method.getModifiers())) {
                method.setAccessible(true);
                calls.put(method.getName(), method);
            }
        }
        return calls;
    }

    /** What a call answers, or the very class of what it throws. */
    Object call(String name, Object... arguments) {
        try {
            return calls.get(name).invoke(object, arguments);
        } catch (InvocationTargetException e) {
            return e.getCause().getClass();
        } catch (IllegalAccessException e) {
            throw new IllegalStateException(e);
        }
    }

    /**
     * All that can be known of a house, by fewer than a hundred calls. The last of them change it, so that no house
     * is asked twice.
     */
    String state() {
        StringBuilder state = new StringBuilder();
        for (int relation = 0; relation < 8; relation++) {
            state.append(" r").append(call("ofRelation", relation, 0));
            state.append(" of ").append(call("ofRelation", relation, 1));
        }
        for (int operation = 0; operation < 6; operation++) {
            state.append(" f").append(call("code", operation));
            // A refused value shows which points there are, and so how many places.
            for (int point : new int[] {3, 4, 9}) {
                state.append(" ").append(call("answers", operation, point, -1));
            }
        }
        for (int variable = 0; variable < 6; variable++) {
            state.append(" v").append(call("left", variable)).append(" ").append(call("pairs", variable, 0));
        }
        state.append(" ").append(call("solutions")).append(" ").append(call("solve")).append(" ").append(call("fault"));
        state.append(" constraints ").append(call("instance", 1));
        state.append(" relations ").append(call("relation", 1));
        state.append(" operations ").append(call("operation", 1));
        Object defined = call("define");
        state.append(" defined ").append(defined);
        if (defined instanceof Integer) {
            state.append(" ").append(call("ofRelation", defined, 1));
        }
        state.append(" tape ").append(call("wipe")).append(" values ").append(call("values", 2));
        return state.toString().replace("class java.lang.", "");
    }
}
