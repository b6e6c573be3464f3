import java.lang.reflect.InvocationTargetException;
import java.lang.reflect.Method;
import java.lang.reflect.Modifier;
import java.util.Arrays;

/** All calls with all edges of all arguments: no other exception reaches the caller than those its method tells of. */
public final class EdgesTest extends Checks {
    private static final int CALLS_OF_AN_OBJECT = 400;

    /** On, within and beyond each bound that the document names. */
    private static final int[] EDGES = {Integer.MIN_VALUE, -2, -1, 0, 1, 2, 3, 4, 5, 6, 7, 8, 10, 11, 12, 13, 14, 15, 20, 21, 50, 51,
        60, 61, 99, 100, 999, 4095, 4096, 999999999, 1000000000, Integer.MAX_VALUE};
    /** Three of them at once are many: these are the ones that some call of three arguments has a bound at. */
    private static final int[] FEW_EDGES = {Integer.MIN_VALUE, -1, 0, 1, 2, 3, 5, 6, 11, 12, 20, 21, 60, 61, 99, 100,
        Integer.MAX_VALUE};

    private static final String[] TEXTS = {
        "",
        ALL_OPEN + "woman 9 2 99;woman 0 0 0;week 1;knots 0;",
        times("stretch 99 50 0;", 12) + times("woman 9 11 99;", 6) + "week 1;knots 0 00 000 0000 1 9 99 9999;",
        "stretch 9 9 1;stretch 99 99 2;woman 1 1 1;knots 1;week 9;frays strain/(day-3)+seam*seam*seam*seam*seam*seam;"
            + "pulls (((((9999*9999*9999/women/stitch))))) and not not not not not not beside;",
    };

    private static HorizonSeam x;
    private static int calls;
    private static long asked = 0;

    public static void main(String[] args) throws IllegalAccessException {
        says("nothing else ever reaches its caller");
        for (String text : TEXTS) {
            for (Method m : HorizonSeam.class.getDeclaredMethods()) {
                if (Modifier.isPublic(m.getModifiers())) {
                    begin(text);
                    sweep(text, m, new Object[m.getParameterCount()], 0);
                }
            }
        }
        due("calls were made", 1, () -> bit(asked > 50000));
        end("nothing but what is told is thrown");
    }

    private static void begin(String text) {
        x = of(text);
        calls = 0;
        x.tear(0, 5);
        x.see(0, 3, 0);
        x.image();
        x.days(7);
    }

    private static void sweep(String text, Method m, Object[] arguments, int from) throws IllegalAccessException {
        if (from == arguments.length) {
            ask(text, m, arguments);
            return;
        }
        // Twenty bytes are twenty bytes: one edge for all of them.
        int[] edges = arguments.length > 2 ? FEW_EDGES : EDGES;
        for (int edge : edges) {
            if (arguments.length == 5) {
                Arrays.fill(arguments, edge);
                ask(text, m, arguments);
            } else {
                arguments[from] = edge;
                sweep(text, m, arguments, from + 1);
            }
        }
    }

    private static void ask(String text, Method m, Object[] arguments) throws IllegalAccessException {
        if (calls >= CALLS_OF_AN_OBJECT) {
            begin(text);
        }
        calls++;
        asked++;
        try {
            m.invoke(x, arguments);
        } catch (InvocationTargetException e) {
            if (!Arrays.asList(m.getExceptionTypes()).contains(e.getCause().getClass())) {
                complain(m.getName() + Arrays.toString(arguments) + " throws " + e.getCause() + " of '" + text + "'");
            }
        }
    }
}
