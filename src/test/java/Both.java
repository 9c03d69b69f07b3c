import java.lang.reflect.InvocationTargetException;
import java.lang.reflect.Method;
import java.util.Arrays;
import java.util.Map;
import java.util.TreeMap;

/** The program and the oracle side by side: each call is made on both, and has to be answered alike. */
final class Both {
    /** What later calls on one object answer is free. */
    static final int MOST_CALLS = 512;

    private static final Map<String, Method> PROGRAM = methods(LeggedThrough.class);
    private static final Map<String, Method> ORACLE = methods(Oracle.class);

    private final Due due;
    private final String name;
    private final LeggedThrough x = new LeggedThrough();
    private final Oracle y = new Oracle();
    private int calls;

    Both(Due due, String name) {
        this.due = due;
        this.name = name;
    }

    int callsLeft() {
        return MOST_CALLS - calls;
    }

    /** What the oracle holds, looked at without a call on the program. */
    int about(int what) {
        return y.about(what);
    }

    /** Makes the call on both; the oracle's answer. */
    long call(String call, Object... told) {
        if (calls >= MOST_CALLS) {
            throw new IllegalStateException(name + ": more than " + MOST_CALLS + " calls");
        }
        calls++;
        long want = answer(ORACLE, y, call, told);
        due.same(name + ": " + call + Arrays.toString(told), answer(PROGRAM, x, call, told), want);
        return want;
    }

    void tell(String text) {
        call("wipe");
        for (int i = 0; i < text.length(); i++) {
            call("write", (int) text.charAt(i));
        }
    }

    /** All that the figures of the face tell of what is held now; nothing is changed. */
    void look() {
        for (int what = 0; what < 8; what++) {
            call("about", what);
        }
        for (int legger = 0; legger < y.about(1); legger++) {
            for (int what = 0; what < 6; what++) {
                call("legger", legger, what);
            }
        }
        for (int boat = 0; boat < y.about(2); boat++) {
            call("load", boat);
        }
        for (int place = -1; place < 4; place++) {
            call("lives", place);
        }
        call("fault");
    }

    static Method method(String call) {
        Method method = PROGRAM.get(call);
        if (method == null) {
            throw new IllegalStateException("no such call: " + call);
        }
        return method;
    }

    /** A call by its name; the machine's own exceptions come out as errors of the test. */
    static long answer(LeggedThrough x, String call, Object... told) {
        return answer(PROGRAM, x, call, told);
    }

    private static long answer(Map<String, Method> methods, Object on, String call, Object... told) {
        Method method = methods.get(call);
        if (method == null) {
            throw new IllegalStateException("no such call: " + call);
        }
        try {
            return ((Number) method.invoke(on, told)).longValue();
        } catch (InvocationTargetException thrown) {
            throw new IllegalStateException(call + Arrays.toString(told) + " threw", thrown.getCause());
        } catch (IllegalAccessException hidden) {
            throw new IllegalStateException(hidden);
        }
    }

    private static Map<String, Method> methods(Class<?> of) {
        Map<String, Method> methods = new TreeMap<>();
        for (Method method : of.getDeclaredMethods()) {
            if (!java.lang.reflect.Modifier.isPrivate(method.getModifiers())) {
                methods.put(method.getName(), method);
            }
        }
        return methods;
    }
}
