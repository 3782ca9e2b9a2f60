import java.lang.reflect.InvocationTargetException;
import java.lang.reflect.Method;
import java.util.ArrayList;
import java.util.HashMap;
import java.util.List;
import java.util.Map;

/** The class and the Model side by side: each call goes to both, and both are to answer alike. */
final class Both {
    private static final Map<String, Method> METHODS = new HashMap<>();

    static {
        for (Class<?> type : new Class<?>[] {SteepleStruck.class, Model.class}) {
            for (Method method : type.getMethods()) {
                METHODS.put(type.getName() + "." + method.getName() + "/" + method.getParameterCount(), method);
            }
        }
    }

    final Model model = new Model();
    private final SteepleStruck real = new SteepleStruck();
    private final String name;
    private final List<String> told = new ArrayList<>();

    Both(String name) {
        this.name = name;
    }

    int calls() {
        return told.size();
    }

    /** Whether both answer alike; if not, or if the class throws, it is told. */
    boolean call(String method, int... args) throws ReflectiveOperationException {
        Object[] values = new Object[args.length];
        StringBuilder line = new StringBuilder(method).append('(');
        for (int i = 0; i < args.length; i++) {
            values[i] = args[i];
            line.append(i == 0 ? "" : ", ").append(args[i]);
        }
        told.add(line.append(')').toString());
        long want = answer(model, method, values);
        long got;
        try {
            got = answer(real, method, values);
        } catch (InvocationTargetException thrown) {
            Check.holds(name + ": " + told + " threw " + thrown.getCause(), false);
            return false;
        }
        if (got != want) {
            Check.due(name + ": " + told, got, want);
            return false;
        }
        return true;
    }

    private static long answer(Object object, String method, Object[] values) throws ReflectiveOperationException {
        Method found = METHODS.get(object.getClass().getName() + "." + method + "/" + values.length);
        return ((Number) found.invoke(object, values)).longValue();
    }
}
