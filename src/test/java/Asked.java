import java.lang.reflect.InvocationTargetException;
import java.lang.reflect.Method;
import java.lang.reflect.Modifier;
import java.util.HashMap;
import java.util.Map;

/** A new object that is asked by the names of its methods, as in "child 0 2 12 3", and 512 times at most. */
final class Asked {
    static final int CALLS = 512;
    private static final Map<String, Method> METHODS = publicMethods();

    private final SchoolRides rides = new SchoolRides();
    private int calls;

    private static Map<String, Method> publicMethods() {
        Map<String, Method> methods = new HashMap<>();
        for (Method m : SchoolRides.class.getDeclaredMethods()) {
            if (Modifier.isPublic(m.getModifiers())) {
                methods.put(m.getName(), m);
            }
        }
        return methods;
    }

    /** The answer; true counts 1, false 0. */
    int ask(String call) {
        calls++;
        if (calls > CALLS) {
            throw new IllegalStateException("the document promises nothing of the 513th call: " + call);
        }
        String[] words = call.trim().split(" +");
        Method method = METHODS.get(words[0]);
        if (method == null || method.getParameterCount() != words.length - 1) {
            throw new IllegalArgumentException("no such call: " + call);
        }
        Object[] with = new Object[words.length - 1];
        for (int i = 0; i < with.length; i++) {
            with[i] = method.getParameterTypes()[i] == boolean.class ? (Object) flag(words[i + 1])
                    : (Object) number(words[i + 1]);
        }
        try {
            Object answer = method.invoke(rides, with);
            return answer instanceof Boolean is ? is ? 1 : 0 : (Integer) answer;
        } catch (InvocationTargetException e) {
            throw new IllegalStateException(call + " threw", e.getCause());
        } catch (IllegalAccessException e) {
            throw new IllegalStateException(e);
        }
    }

    static int number(String word) {
        switch (word) {
            case "MAX":
                return Integer.MAX_VALUE;
            case "MIN":
                return Integer.MIN_VALUE;
            case "true":
                return 1;
            case "false":
                return 0;
            default:
                return Integer.parseInt(word);
        }
    }

    private static boolean flag(String word) {
        if (!word.equals("true") && !word.equals("false")) {
            throw new IllegalArgumentException("neither true nor false: " + word);
        }
        return word.equals("true");
    }
}
