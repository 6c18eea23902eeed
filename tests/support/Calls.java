import java.lang.reflect.InvocationTargetException;
import java.lang.reflect.Method;
import java.util.ArrayList;
import java.util.HashMap;
import java.util.List;
import java.util.Map;

/** Calls that are told as texts ("shift 0 4"), so that a test can hold them in tables. */
final class Calls {
    private static final Map<String, Method> BY_NAME = new HashMap<>();

    static {
        for (Method m : BoathouseKey.class.getMethods()) {
            if (m.getDeclaringClass() == BoathouseKey.class) BY_NAME.put(m.getName(), m);
        }
    }

    private Calls() {
    }

    /** What the call answers; what it throws, if it does, as none may. */
    static String answer(BoathouseKey x, String call) {
        String[] words = call.split(" ");
        return invoked(BY_NAME.get(words[0]), x, words);
    }

    private static String invoked(Method m, BoathouseKey x, String[] words) {
        Class<?>[] types = m.getParameterTypes();
        Object[] values = new Object[types.length];
        for (int i = 0; i < types.length; i++) values[i] = value(types[i], words[i + 1]);
        try {
            return String.valueOf(m.invoke(x, values));
        } catch (InvocationTargetException e) {
            return String.valueOf(e.getCause());
        } catch (IllegalAccessException e) {
            throw new IllegalStateException(e);
        }
    }

    private static Object value(Class<?> type, String word) {
        if (type == boolean.class) return Boolean.valueOf(word);
        if (type == long.class) return Long.valueOf(word);
        return Integer.valueOf(word);
    }

    /** Calls one behind the other ("text N1; make; hour 0"); "text" puts a text as THE TEXT. */
    static BoathouseKey after(String calls) {
        BoathouseKey x = new BoathouseKey();
        for (String call : calls.split("; ")) {
            if (call.startsWith("text ")) Texts.put(x, call.substring(5));
            else if (!call.isEmpty()) answer(x, call);
        }
        return x;
    }

    /**
     * All that can be seen of an object, and at last what it does from there on; the object is used up by it.
     * Two objects that are alike see the same.
     */
    static List<String> allOf(BoathouseKey x) {
        List<String> all = new ArrayList<>();
        for (int what = 0; what < 5; what++) see(all, x, "count " + what);
        see(all, x, "fault false", "fault true");
        for (int s = 0; s < 8; s++) for (int what = 0; what < 3; what++) see(all, x, "session " + s + " " + what);
        for (int p = 0; p < 4; p++) for (int what = 0; what < 4; what++) see(all, x, "place " + p + " " + what);
        for (int i = 0; i < 6; i++) see(all, x, "home " + i);
        for (int r = 0; r < 3; r++) for (int h = 0; h < 10; h++) see(all, x, "ruled " + r + " " + h);
        seeLive(all, x);
        for (int h = 0; h < 3; h++) {
            see(all, x, "hour " + h);
            seeLive(all, x);
        }
        for (int slot = 0; slot < 2; slot++) {
            see(all, x, "again " + slot);
            seeLive(all, x);
        }
        for (int h = 0; h < 10; h++) see(all, x, "tell " + h + " 99");
        see(all, x, "week 0 10 2", "ahead 1 10 9", "ever 2 10 1");
        see(all, x, "own 0", "rule 0");
        for (int h = 0; h < 10; h++) see(all, x, "ruled 0 " + h);
        see(all, x, "make", "session 0 1", "session 7 0", "place 3 0", "home 0");
        return all;
    }

    private static void seeLive(List<String> all, BoathouseKey x) {
        see(all, x, "where");
        for (int what = 0; what < 6; what++) see(all, x, "live " + what);
    }

    private static void see(List<String> all, BoathouseKey x, String... calls) {
        for (String call : calls) all.add(call + " = " + answer(x, call));
    }
}
