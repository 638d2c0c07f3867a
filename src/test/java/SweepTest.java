import java.lang.reflect.InvocationTargetException;
import java.lang.reflect.Method;
import java.util.ArrayList;
import java.util.Arrays;
import java.util.List;

/**
 * Every call with every row of chosen arguments, the least and the largest int among them, on objects in
 * several states: each answer, and all that is told behind it, must be the model's.
 */
public final class SweepTest {
    private static final int LEAST = Integer.MIN_VALUE, MOST = Integer.MAX_VALUE;
    // So many calls of an object are promised; behind each call of the sweep six more look at it.
    private static final int CALLS_MOST = 512, LOOKS = 7;
    /** By how many arguments a call has, which ones are tried at each place. */
    private static final int[][] CHOSEN = {
        {},
        {LEAST, LEAST + 1, -101, -2, -1, 0, 1, 2, 3, 4, 5, 6, 7, 8, 9, 10, 11, 12, 13, 15, 16, 39, 40, 41, MOST - 1, MOST},
        {LEAST, LEAST + 1, -2, -1, 0, 1, 2, 3, 4, 5, 6, 8, 10, 12, 13, 15, 16, 40, 41, 60, 61, 1 << 30, MOST - 1, MOST},
        {LEAST, -1, 0, 1, 2, 3, 4, 5, 6, 8, 9, 12, 13, 16, 40, 1 << 30, MOST},
        {LEAST, -1, 0, 1, 2, 3, 5, 6, MOST},
        {LEAST, -1, 0, 1, 3, 6, 40, MOST},
    };
    private static final String[][] STATES = {
        {},
        {"row 0 0", "row 1 40", "row 2 3", "text 1 0", "text 2 60"},
        {"ground 00=00", "image 0", "row 0 0", "row 1 3"},
        {"ground 1020=0123prsbtd", "image 0", "dig 1", "image 1", "dig 3", "dig 3", "fill 0", "row 0 0", "row 1 6", "lay 1 3 3"},
        {"ground 10/01=01bt", "image 2", "full", "row 0 3", "lay 0 0 1", "lay 0 1 1", "row 3 40"},
        {"ground 5050/0505/5050/0505=3210dtbsrp", "image 0", "rain 12 1", "image 1", "row 0 1", "lay 0 0 80", "row 5 39"},
    };

    private static int wrong;
    private static long swept;

    private final int state;
    private HoleMoved x;
    private Model m;
    private int made;

    private SweepTest(int state) {
        this.state = state;
    }

    public static void main(String[] args) throws ReflectiveOperationException {
        for (int state = 0; state < STATES.length; state++) {
            for (Method call : HoleMoved.class.getDeclaredMethods()) {
                new SweepTest(state).sweep(call);
            }
        }
        System.out.println(wrong == 0 ? swept + " calls are as the model's" : wrong + " answers are not the model's");
        if (wrong != 0) {
            System.exit(1);
        }
    }

    private void sweep(Method call) throws ReflectiveOperationException {
        int places = call.getParameterCount();
        if (places == 0 || !java.lang.reflect.Modifier.isPublic(call.getModifiers())) {
            return;
        }
        Method model = call.getName().equals("findings") ? null : Model.class.getDeclaredMethod(call.getName(), call.getParameterTypes());
        int[] chosen = CHOSEN[places];
        long all = Math.round(Math.pow(chosen.length, places));
        begin();
        for (long number = 0; number < all && wrong < 20; number++) {
            Object[] arguments = new Object[places];
            long rest = number;
            for (int i = 0; i < places; i++) {
                arguments[i] = chosen[(int) (rest % chosen.length)];
                rest /= chosen.length;
            }
            if (made + LOOKS > CALLS_MOST) {
                begin();
            }
            compare(call, model, arguments);
        }
    }

    private void compare(Method call, Method model, Object[] arguments) throws ReflectiveOperationException {
        String what = "state " + state + ": " + call.getName() + Arrays.toString(arguments);
        made++;
        swept++;
        try {
            Object got = call.invoke(x, arguments);
            Object want = model == null ? (Object) findings((Integer) arguments[0]) : model.invoke(m, arguments);
            same(what, ((Number) got).longValue(), ((Number) want).longValue());
        } catch (InvocationTargetException thrown) {
            wrong++;
            System.out.println(what + " threw " + thrown.getCause());
        }
        look(what);
    }

    private int findings(int f) {
        return f < 1 || f > 5 ? -1 : m.findings[f];
    }

    private void look(String what) {
        made += LOOKS - 1;
        same(what + ", asked()", x.asked(), m.asked);
        same(what + ", upper()", x.upper(), m.upper);
        same(what + ", lower()", x.lower(), m.lower);
        same(what + ", finding()", x.finding(), m.finding);
        same(what + ", findings()", m.finding == 0 ? 0 : x.findings(m.finding), m.finding == 0 ? 0 : m.findings[m.finding]);
        same(what + ", digest()", x.digest(), m.digest());
    }

    private static void same(String what, long got, long want) {
        if (got != want) {
            wrong++;
            System.out.println(what + " answered " + got + ", the model " + want);
        }
    }

    /** A new object in its state, for accepted calls may have changed the one ahead. */
    private void begin() throws ReflectiveOperationException {
        x = new HoleMoved();
        m = new Model();
        made = 0;
        for (String step : STATES[state]) {
            String[] words = step.split(" ");
            if (words[0].equals("ground")) {
                ground(words[1]);
            } else if (words[0].equals("full")) {
                for (int deed = 0; deed < 20; deed++) {
                    both("dig", 1);
                    both("fill", 1);
                }
            } else {
                both(words[0], Arrays.stream(words).skip(1).mapToInt(Integer::parseInt).toArray());
            }
        }
    }

    private void ground(String signs) throws ReflectiveOperationException {
        both("text", 0, signs.length());
        for (int i = 0; i < signs.length(); i++) {
            both("put", 0, i, signs.charAt(i));
        }
        both("ground", 0);
    }

    private void both(String name, int... arguments) throws ReflectiveOperationException {
        Class<?>[] types = new Class<?>[arguments.length];
        Arrays.fill(types, int.class);
        List<Object> boxed = new ArrayList<>();
        for (int v : arguments) {
            boxed.add(v);
        }
        made++;
        Object got = HoleMoved.class.getMethod(name, types).invoke(x, boxed.toArray());
        Object want = Model.class.getDeclaredMethod(name, types).invoke(m, boxed.toArray());
        same("state " + state + ": " + name + boxed, ((Number) got).longValue(), ((Number) want).longValue());
    }
}
