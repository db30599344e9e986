import java.lang.reflect.InvocationTargetException;
import java.lang.reflect.Method;
import java.util.Arrays;
import java.util.HashMap;
import java.util.Map;

/** One object of the program and one Model beside it, both called by a call's name and numbers (true is 1). */
final class Calls {
    /** Stands for the exception that the document names. */
    static final long THROWS = -1000000;
    private static final Map<String, Method> OF_YARD = methods(StackYard.class);
    private static final Map<String, Method> OF_MODEL = methods(Model.class);

    final StackYard yard = new StackYard();
    final Model model = new Model();
    int made;

    private static Map<String, Method> methods(Class<?> type) {
        Map<String, Method> found = new HashMap<>();
        for (Method method : type.getDeclaredMethods()) {
            // of the model's helpers that bear a face's name the face's own takes numbers alone
            if (Arrays.stream(method.getParameterTypes()).allMatch(Class::isPrimitive)) {
                method.setAccessible(true);
                found.put(method.getName(), method);
            }
        }
        return found;
    }

    long ofYard(String name, long... arguments) {
        made++;
        return answer(OF_YARD, yard, name, arguments);
    }

    long ofModel(String name, long... arguments) {
        return answer(OF_MODEL, model, name, arguments);
    }

    private static long answer(Map<String, Method> methods, Object of, String name, long[] arguments) {
        String call = name + Arrays.toString(arguments);
        Method method = methods.get(name);
        if (method == null || method.getParameterCount() != arguments.length) {
            throw new IllegalArgumentException("no such call: " + call);
        }
        Object[] given = new Object[arguments.length];
        for (int i = 0; i < given.length; i++) {
            boolean truth = method.getParameterTypes()[i] == boolean.class;
            given[i] = truth ? (Object) (arguments[i] != 0) : (Object) Math.toIntExact(arguments[i]);
        }
        try {
            Object got = method.invoke(of, given);
            return got instanceof Boolean ? ((Boolean) got ? 1 : 0) : (Integer) got;
        } catch (InvocationTargetException e) {
            // of that very class: the machine's own for an array's index is one below it
            if (e.getCause().getClass() == IndexOutOfBoundsException.class && name.equals("fallen")) {
                return THROWS;
            }
            throw new IllegalStateException(call, e);
        } catch (IllegalAccessException e) {
            throw new IllegalStateException(e);
        }
    }
}
