import java.lang.reflect.InvocationTargetException;
import java.lang.reflect.Method;
import java.lang.reflect.Modifier;
import java.util.HashMap;
import java.util.List;
import java.util.Map;

/** Calls of TopYard as texts: "put 0 1 5 -7" is put(0, 1, 5, -7). */
final class Face {
    static final List<String> NAMES = List.of(("turn top about wear give bowl dent smooth height string enter clear whip run winner "
        + "knocks state choose among pay pays fill value mix expected was forget read worn most explained type wipe fault play "
        + "played met pairing bag sheet lose put get copy write count digest").split(" "));
    private static final Map<String, Method> CALLS = new HashMap<>();

    static {
        for (Method m : TopYard.class.getDeclaredMethods()) {
            if (Modifier.isPublic(m.getModifiers())) CALLS.put(m.getName(), m);
        }
    }

    /** The number of the promise of a call: promise 1 is the new object, then they come in the order of the face. */
    static int promise(String text) {
        return 2 + NAMES.indexOf(text.split(" ")[0]);
    }

    static long call(TopYard yard, String text) {
        String[] words = text.trim().split(" +");
        Object[] numbers = new Object[words.length - 1];
        for (int k = 1; k < words.length; k++) numbers[k - 1] = Integer.parseInt(words[k]);
        try {
            return ((Number) CALLS.get(words[0]).invoke(yard, numbers)).longValue();
        } catch (InvocationTargetException thrown) {
            throw new IllegalStateException(text + " threw", thrown.getCause());
        } catch (IllegalAccessException closed) {
            throw new IllegalStateException(closed);
        }
    }

    /** Calls with ; between them; the answer of the last. */
    static long calls(TopYard yard, String texts) {
        long answer = 0;
        for (String text : texts.split(";")) {
            if (!text.isBlank()) answer = call(yard, text);
        }
        return answer;
    }

    /** The text of a call with these numbers. */
    static String text(String name, int... numbers) {
        StringBuilder text = new StringBuilder(name);
        for (int v : numbers) text.append(' ').append(v);
        return text.toString();
    }
}
