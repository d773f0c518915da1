import java.lang.reflect.InvocationTargetException;
import java.lang.reflect.Method;
import java.util.ArrayList;
import java.util.Arrays;
import java.util.HashMap;
import java.util.List;
import java.util.Map;

/** Calls by name, on the class and on Naive alike, and what fits as their arguments. */
final class Calls {
    static final int LEAST = Integer.MIN_VALUE, MOST = Integer.MAX_VALUE;
    /** What a call answers that throws, which none may: no act answers this. */
    static final long THROWN = -987654321987654321L;

    private static final Map<String, Method> METHODS = new HashMap<>();

    /** Each call of the face that takes an argument, with arguments that fit in most scenes. */
    static final Object[][] ALL = {
        {"pass", 1}, {"row", 1, 0, 0, 3, 1800, 1, 1}, {"takeBack", 1}, {"about", 1, 5}, {"letter", 1, 1}, {"asOf", 0},
        {"way", 0, 1, 7}, {"type", 97}, {"sound", 1, 1}, {"slips", 0, 1}, {"level", 0, 1, 1}, {"points", 1, 1, 5},
        {"score", 0, 1}, {"chance", true, 1, 1, 5}, {"chance", false, 1, 1, 5}, {"odds", 0, 1, 0}, {"belief", 0, 1, 1, 100},
        {"line", 20}, {"laid", 0, 1, 1}, {"mate", 0, 1}, {"bundle", 0}, {"bundles", 0}, {"torn", 0}, {"cut", 0, 3},
        {"check", 0, 1, true}, {"check", 3, 2, false}, {"checked", 2}, {"bound", 0}, {"learnt", true, 0, 1},
        {"learnt", false, 1, 3}, {"meet", 0, 1, 63}, {"pairs", 63}, {"sheet", 0, 0, 5}, {"lose", 0}, {"put", 0, 0, 0, 7},
        {"put", 1, 1, 2, 7}, {"put", 2, 2, 2, 7}, {"get", 0, 0, 0}, {"get", 1, 1, 2}, {"copy", 0, 0, 0, 1, 2},
        {"copy", 2, 1, 2, 0, 3}, {"write", 0, 0}, {"count", 0},
    };

    /** What stands at, just below and just above the limits of the document, and where numbers wrap. */
    static final int[] EDGES = {
        LEAST, LEAST + 1, -65536, -1001, -1000, -401, -400, -399, -129, -128, -101, -100, -99, -3, -2, -1, 0, 1, 2, 3, 4, 5, 6, 7,
        8, 9, 10, 11, 12, 13, 20, 21, 31, 35, 36, 37, 39, 40, 41, 50, 60, 61, 63, 64, 79, 80, 81, 96, 97, 99, 100, 101, 122, 123,
        127, 128, 255, 256, 398, 399, 400, 401, 999, 1000, 1001, 1499, 1500, 1999, 2000, 65535, 65536, 99999, 100000, 100001,
        MOST - 40, MOST - 1, MOST,
    };

    static long answer(Object target, Object... call) {
        try {
            return ((Number) method(target, (String) call[0]).invoke(target, Arrays.copyOfRange(call, 1, call.length))).longValue();
        } catch (InvocationTargetException thrown) {
            return THROWN;
        } catch (IllegalAccessException closed) {
            throw new IllegalStateException(closed);
        }
    }

    private static Method method(Object target, String name) {
        return METHODS.computeIfAbsent(target.getClass().getName() + "." + name, key -> {
            for (Method m : target.getClass().getDeclaredMethods()) {
                if (m.getName().equals(name) && !java.lang.reflect.Modifier.isPrivate(m.getModifiers())) return m;
            }
            throw new IllegalStateException(key);
        });
    }

    static String text(Object... call) {
        String arguments = Arrays.toString(Arrays.copyOfRange(call, 1, call.length));
        return call[0] + "(" + arguments.substring(1, arguments.length() - 1) + ")";
    }

    /** The places in a call at which a number stands. */
    static List<Integer> numbers(Object[] call) {
        List<Integer> places = new ArrayList<>();
        for (int k = 1; k < call.length; k++) {
            if (call[k] instanceof Integer) places.add(k);
        }
        return places;
    }

    static boolean isRefused(String name, long answer) {
        switch (name) {
            case "points": case "score": case "line": return answer == -1000;
            case "odds": return answer == Long.MIN_VALUE;
            case "get": return answer == LEAST;
            default: return answer <= -2;
        }
    }
}
