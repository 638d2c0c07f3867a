import java.lang.reflect.InvocationTargetException;
import java.lang.reflect.Method;
import java.util.Arrays;
import java.util.HashMap;
import java.util.Map;
import java.util.Set;
import java.util.TreeSet;

/**
 * A new object under test. Calls are written as the document writes them, "lay(0, 39, MOST)". What is
 * refused is looked at twice: for its answer, and for all that must be as it was.
 */
final class Probe {
    static final int BAD = -1, FULL = -2, FINDING = -3, STATE = -4, NONE = -9;
    static final int NOTHING = 1, BEYOND = 2, UNLIKE = 3, NOUGHT = 4, SIZE = 5;
    private static final String[] FINDINGS = {"", "NOTHING", "BEYOND", "UNLIKE", "NOUGHT", "SIZE"};
    private static final String[] TOLD = {"digest()", "asked()", "upper()", "lower()", "finding()", "findings(1)",
        "findings(2)", "findings(3)", "findings(4)", "findings(5)"};
    private static final int FINDING_AT = 4;
    // What an object answers behind this many calls is free, so no test may ask for it.
    private static final int CALLS_MOST = 512;

    private static final Map<String, Method> FACE = new HashMap<>();
    /** Which calls were seen to be refused how: "row BAD", .. */
    private static final Set<String> SEEN = new TreeSet<>();
    private static int promise;
    private static String sentence = "";
    private static final Set<String> SENTENCES = new TreeSet<>();
    private static int wrong;

    static {
        for (Method m : HoleMoved.class.getDeclaredMethods()) {
            FACE.put(m.getName(), m);
        }
    }

    private final HoleMoved x = new HoleMoved();
    private int calls;
    // All that was told behind the latest refusal, while no other call has come behind it.
    private long[] known;

    /** The sentence of the document that the checks behind this are about. */
    static void says(int number, String words) {
        promise = number;
        sentence = words;
        SENTENCES.add(number + " " + words);
    }

    /**
     * Ends a test. Each word of what is named, "row BAD SIZE", is a way in which the document says that a
     * call is refused: it must have been seen.
     */
    static void end(String... named) {
        for (String line : named) {
            String[] words = line.split(" ");
            for (int i = 1; i < words.length; i++) {
                if (!SEEN.contains(words[0] + " " + words[i])) {
                    wrong++;
                    System.out.println("no test has " + words[0] + "() answer " + words[i]);
                }
            }
        }
        System.out.println(wrong == 0 ? SENTENCES.size() + " sentences hold" : wrong + " answers are not as due");
        if (wrong != 0) {
            System.exit(1);
        }
    }

    static void due(String what, long got, long want) {
        if (got != want) {
            wrong++;
            System.out.println("promise " + promise + ", " + sentence + ": " + what + " answered " + got
                    + ", due is " + want);
        }
    }

    /** An object whose GROUND is taken from TEXT 0. */
    static Probe on(String ground) {
        Probe p = new Probe().write(0, ground);
        due("ground(0) of \"" + ground + "\" is taken", p.call("ground(0)") > 0 ? 1 : 0, 1);
        return p;
    }

    Probe write(int t, String signs) {
        call("text(" + t + ", " + signs.length() + ")");
        for (int i = 0; i < signs.length(); i++) {
            if (signs.charAt(i) != ' ') {
                call("put(" + t + ", " + i + ", " + (int) signs.charAt(i) + ")");
            }
        }
        return this;
    }

    Probe lays(int r, int... values) {
        call("row(" + r + ", " + values.length + ")");
        for (int i = 0; i < values.length; i++) {
            if (values[i] != 0) {
                call("lay(" + r + ", " + i + ", " + values[i] + ")");
            }
        }
        return this;
    }

    long call(String call) {
        known = null;
        calls++;
        if (calls > CALLS_MOST) {
            due("a call behind the last that is promised: " + call, calls, CALLS_MOST);
        }
        String name = call.substring(0, call.indexOf('('));
        String inside = call.substring(call.indexOf('(') + 1, call.lastIndexOf(')')).trim();
        String[] words = inside.isEmpty() ? new String[0] : inside.split(", *");
        Object[] numbers = Arrays.stream(words).map(Probe::number).toArray();
        try {
            return ((Number) FACE.get(name).invoke(x, numbers)).longValue();
        } catch (InvocationTargetException thrown) {
            wrong++;
            System.out.println("promise " + promise + ": " + call + " threw " + thrown.getCause());
            return Long.MIN_VALUE;
        } catch (IllegalAccessException closed) {
            throw new IllegalStateException(call, closed);
        }
    }

    private static Object number(String word) {
        return word.equals("MOST") ? Integer.valueOf(Integer.MAX_VALUE)
                : word.equals("LEAST") ? Integer.valueOf(Integer.MIN_VALUE) : Integer.valueOf(word);
    }

    /** Calls whose answers are not looked at. */
    Probe does(String... several) {
        for (String call : several) {
            call(call);
        }
        return this;
    }

    Probe times(int n, String... several) {
        for (int i = 0; i < n; i++) {
            does(several);
        }
        return this;
    }

    Probe gives(String call, long want) {
        due(call, call(call), want);
        return this;
    }

    /** A call that tells by asked() and answers 1. */
    Probe tells(String call, int want) {
        return gives(call, 1, want);
    }

    /** A call that answers something and tells something more by asked(). */
    Probe gives(String call, long want, int asked) {
        due(call, call(call), want);
        due("asked() behind " + call, call("asked()"), asked);
        return this;
    }

    /** A call that tells a fraction. */
    Probe parts(String call, long upper, long lower) {
        due(call, call(call), 1);
        due("upper() behind " + call, call("upper()"), upper);
        due("lower() behind " + call, call("lower()"), lower);
        return this;
    }

    Probe bad(String... several) {
        return refused("BAD", BAD, several);
    }

    Probe full(String... several) {
        return refused("FULL", FULL, several);
    }

    Probe state(String... several) {
        return refused("STATE", STATE, several);
    }

    /** NONE is an answer, but changes as little as a refusal: a ROW that would come anew stays. */
    Probe none(String... several) {
        return refused("NONE", NONE, several);
    }

    Probe finds(int finding, String... several) {
        for (String call : several) {
            long[] want = all();
            due(call, call(call), FINDING);
            want[FINDING_AT] = finding;
            want[FINDING_AT + finding]++;
            allIs(call, want);
            SEEN.add(nameOf(call) + " " + FINDINGS[finding]);
        }
        return this;
    }

    private Probe refused(String how, int answer, String... several) {
        for (String call : several) {
            long[] want = all();
            due(call, call(call), answer);
            allIs(call, want);
            SEEN.add(nameOf(call) + " " + how);
        }
        return this;
    }

    private static String nameOf(String call) {
        return call.substring(0, call.indexOf('('));
    }

    private void allIs(String call, long[] want) {
        long[] got = all();
        for (int i = 0; i < TOLD.length; i++) {
            due(TOLD[i] + " behind " + call, got[i], want[i]);
        }
        known = got;
    }

    /** What a refused call must leave as it is, and what it may change. */
    private long[] all() {
        if (known != null) {
            return known;
        }
        return Arrays.stream(TOLD).mapToLong(this::call).toArray();
    }

    Probe rowIs(int r, int... values) {
        for (int i = 0; i < values.length; i++) {
            tells("at(" + r + ", " + i + ")", values[i]);
        }
        due("a place behind the end of ROW " + r, call("at(" + r + ", " + values.length + ")"), FINDING);
        due("finding() there", call("finding()"), BEYOND);
        return this;
    }

    long digest() {
        return call("digest()");
    }

    Probe digestIs(long want) {
        return gives("digest()", want);
    }
}
