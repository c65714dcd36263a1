import java.lang.reflect.InvocationTargetException;
import java.lang.reflect.Method;
import java.lang.reflect.Modifier;
import java.util.ArrayDeque;
import java.util.Arrays;
import java.util.Map;
import java.util.TreeMap;

/** The class and the model of the document, called alike: each answer of the one is due of the other. */
final class Pair {
    private static final Map<String, Method> OF_REAL = methods(Counted.class);
    private static final Map<String, Method> OF_MODEL = methods(Model.class);
    private static final int LATEST_MOST = 60;

    final Counted real = new Counted();
    final Model model = new Model();
    private final Due due;
    private final String name;
    private final ArrayDeque<String> latest = new ArrayDeque<>();

    Pair(Due due, String name) {
        this.due = due;
        this.name = name;
    }

    private static Map<String, Method> methods(Class<?> face) {
        Map<String, Method> all = new TreeMap<>();
        for (Method m : face.getDeclaredMethods()) {
            if (!Modifier.isPrivate(m.getModifiers())) {
                all.put(m.getName(), m);
            }
        }
        return all;
    }

    /** How many numbers a call of the face takes. */
    static int numbersOf(String call) {
        return OF_REAL.get(call).getParameterCount();
    }

    /** The call of both, by as many of the numbers as it takes: what the model answers. */
    long both(String call, int... numbers) {
        Object[] taken = new Object[numbersOf(call)];
        for (int k = 0; k < taken.length; k++) {
            taken[k] = numbers[k];
        }
        String said = call + Arrays.toString(taken);
        latest.add(said);
        if (latest.size() > LATEST_MOST) {
            latest.removeFirst();
        }
        long want = answer(OF_MODEL, model, call, taken);
        due.is(name + ": " + said, answer(OF_REAL, real, call, taken), want);
        return want;
    }

    private static long answer(Map<String, Method> face, Object object, String call, Object[] taken) {
        try {
            return ((Number) face.get(call).invoke(object, taken)).longValue();
        } catch (InvocationTargetException e) {
            throw new IllegalStateException(call + Arrays.toString(taken), e.getCause());
        } catch (IllegalAccessException e) {
            throw new IllegalStateException(e);
        }
    }

    void write(int t, String s) {
        both("text", t, Math.min(60, s.length()));
        for (int k = 0; k < s.length() && k < 60; k++) {
            both("put", t, k, s.charAt(k));
        }
    }

    void row(int r, int... values) {
        both("row", r, values.length);
        for (int k = 0; k < values.length; k++) {
            both("lay", r, k, values[k]);
        }
    }

    /** What nearly any call could have changed. */
    void lookShortly() {
        both("asked");
        both("digest");
    }

    /** All that any call could have changed. */
    void look() {
        lookShortly();
        both("upper");
        both("lower");
        both("finding");
        for (int f = 1; f <= 5; f++) {
            both("findings", f);
        }
    }

    String latestCalls() {
        return name + ", latest calls: " + latest;
    }
}
