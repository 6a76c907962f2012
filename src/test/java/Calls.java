import java.lang.reflect.InvocationTargetException;
import java.lang.reflect.Method;
import java.util.Arrays;

/** Calls by name, so that a run can go to Openline and to Model alike. */
final class Calls {
    static final String[] NAMES = {"target", "wire", "open", "power", "put", "resistor", "master",
        "write", "read", "step", "run", "cut", "clocks", "handOut", "pass", "sample",
        "ofTarget", "register", "ofMaster", "result", "bus", "trace", "text",
        "check", "scan", "would", "fit", "isSound", "digest"};

    private Calls() {
    }

    static Method named(Object x, String name) {
        for (Method method : x.getClass().getDeclaredMethods()) {
            boolean isOfFace = x instanceof Model || java.lang.reflect.Modifier.isPublic(method.getModifiers());
            // of the model's two checks the one with a list is its own
            if (isOfFace && method.getName().equals(name) && !takesList(method)) {
                return method;
            }
        }
        throw new IllegalArgumentException("no call " + name);
    }

    private static boolean takesList(Method method) {
        return Arrays.asList(method.getParameterTypes()).contains(java.util.List.class);
    }

    /** The answer as a text: a number (a boolean counts 1 or 0), a text, or the exception's name. */
    static String answer(Object x, String name, int... numbers) {
        Object got = answerOrThrown(x, named(x, name), numbers);
        if (got instanceof Boolean) {
            return (Boolean) got ? "1" : "0";
        }
        return got instanceof Throwable ? got.getClass().getSimpleName() : String.valueOf(got);
    }

    /** What the call returned, or what it threw. */
    static Object answerOrThrown(Object x, Method method, int... numbers) {
        Class<?>[] kinds = method.getParameterTypes();
        Object[] given = new Object[kinds.length];
        for (int i = 0; i < given.length; i++) {
            int number = i < numbers.length ? numbers[i] : 0;
            given[i] = kinds[i] == boolean.class ? (Object) (number == 1) : (Object) number;
        }
        try {
            return method.invoke(x, given);
        } catch (InvocationTargetException e) {
            return e.getCause();
        } catch (IllegalAccessException e) {
            return e;
        }
    }
}
