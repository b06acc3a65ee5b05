import java.lang.reflect.InvocationTargetException;
import java.lang.reflect.Method;
import java.util.HashMap;
import java.util.Map;

/** Calls the methods of an object by their names, and tells each answer as a text. */
final class Caller {
    private static final Map<String, Method> METHODS = new HashMap<>();

    private Caller() {
    }

    /** The answer as a text, "void", or "! " and the simple name of the exception. */
    static String answer(Object object, String name, int... arguments) {
        try {
            Object[] boxed = new Object[arguments.length];
            for (int i = 0; i < arguments.length; i++) {
                boxed[i] = arguments[i];
            }
            Object answer = method(object.getClass(), name, arguments.length).invoke(object, boxed);
            return answer == null ? "void" : answer.toString();
        } catch (InvocationTargetException e) {
            return "! " + e.getCause().getClass().getSimpleName();
        } catch (ReflectiveOperationException e) {
            return "no such call: " + name + " with " + arguments.length;
        }
    }

    static String answerTo(Object object, String name, int... arguments) {
        StringBuilder text = new StringBuilder(name);
        for (int argument : arguments) {
            text.append(' ').append(argument);
        }
        return text.append(" = ").append(answer(object, name, arguments)).toString();
    }

    private static Method method(Class<?> type, String name, int parameters) throws NoSuchMethodException {
        String key = type.getName() + " " + name + " " + parameters;
        Method found = METHODS.get(key);
        if (found == null) {
            Class<?>[] ints = new Class<?>[parameters];
            for (int i = 0; i < parameters; i++) {
                ints[i] = int.class;
            }
            found = type.getDeclaredMethod(name, ints);
            METHODS.put(key, found);
        }
        return found;
    }
}
