import java.lang.reflect.InvocationTargetException;
import java.lang.reflect.Method;
import java.util.Arrays;
import java.util.HashMap;
import java.util.Map;

/** One new object and calls on it by their names: never more of them than the document answers for. */
final class Run {
    private static final int MOST_CALLS = 512;
    private static final Map<String, Method> FACE = new HashMap<>();

    private final KeelTolls x = new KeelTolls();
    private int calls = 0;

    static {
        for (Method m : KeelTolls.class.getMethods()) {
            if (m.getDeclaringClass() == KeelTolls.class) {
                FACE.put(m.getName(), m);
            }
        }
    }

    long call(String name, int... args) {
        calls++;
        if (calls > MOST_CALLS) {
            throw new IllegalStateException("more calls than are promised: " + told(name, args));
        }
        Object[] each = Arrays.stream(args).boxed().toArray();
        try {
            return ((Number) FACE.get(name).invoke(x, each)).longValue();
        } catch (InvocationTargetException | IllegalAccessException thrown) {
            throw new IllegalStateException("no call may throw: " + told(name, args), thrown);
        }
    }

    int calls() {
        return calls;
    }

    static String told(String name, int... args) {
        String all = Arrays.toString(args);
        return name + "(" + all.substring(1, all.length() - 1) + ")";
    }

    /** A sheet gets a row of a lane with these numbers. */
    void lay(int sheet, int lane, int... values) {
        call("sheet", sheet, lane, values.length);
        for (int i = 0; i < values.length; i++) {
            call("put", sheet, i, values[i]);
        }
    }

    void layText(int sheet, int lane, String text) {
        lay(sheet, lane, text.chars().toArray());
    }

    /** A hull by its row; the sheet that it came from has nothing then. */
    long hull(int kind, int... row) {
        lay(3, 2, row);
        long number = call("hull", kind, 3, 2, 0, row.length / 2);
        call("lose", 3);
        return number;
    }

    /** A law by its text; the sheet that it came from has nothing then. */
    long law(String text) {
        layText(3, 2, text);
        long number = call("law", 3, 2, 0, text.length());
        call("lose", 3);
        return number;
    }
}
