import java.lang.reflect.InvocationTargetException;
import java.lang.reflect.Method;
import java.util.ArrayList;
import java.util.HashMap;
import java.util.List;
import java.util.Map;
import java.util.function.Supplier;

/** One call by its name, on any object that has such a method; each answer is told as a text. */
final class Call {
    /** What is answered behind so many calls on one object is free. */
    static final int MOST_CALLS = 512;

    private static final Map<String, Method> METHODS = new HashMap<>();

    final String name;
    final int[] arguments;

    Call(String name, int... arguments) {
        this.name = name;
        this.arguments = arguments;
    }

    /** A new object, behind some calls. */
    static Object replay(Supplier<Object> maker, List<Call> calls) {
        Object object = maker.get();
        for (Call call : calls) {
            call.on(object);
        }
        return object;
    }

    static List<Call> with(List<Call> calls, Call last) {
        List<Call> more = new ArrayList<>(calls);
        more.add(last);
        return more;
    }

    /** The answer as a text, "void", or "! " and the simple name of the exception. */
    String on(Object object) {
        try {
            Object[] boxed = new Object[arguments.length];
            for (int i = 0; i < arguments.length; i++) {
                boxed[i] = arguments[i];
            }
            Object answer = method(object.getClass()).invoke(object, boxed);
            return answer == null ? "void" : answer.toString();
        } catch (InvocationTargetException e) {
            return "! " + e.getCause().getClass().getSimpleName();
        } catch (ReflectiveOperationException e) {
            return "no such call: " + this;
        }
    }

    private Method method(Class<?> type) throws NoSuchMethodException {
        String key = type.getName() + " " + name + " " + arguments.length;
        Method found = METHODS.get(key);
        if (found == null) {
            Class<?>[] ints = new Class<?>[arguments.length];
            for (int i = 0; i < ints.length; i++) {
                ints[i] = int.class;
            }
            found = type.getDeclaredMethod(name, ints);
            METHODS.put(key, found);
        }
        return found;
    }

    @Override
    public String toString() {
        StringBuilder text = new StringBuilder(name);
        for (int argument : arguments) {
            text.append(' ').append(argument);
        }
        return text.toString();
    }
}
