import java.lang.reflect.InvocationTargetException;
import java.lang.reflect.Method;
import java.util.ArrayList;
import java.util.Arrays;
import java.util.HashMap;
import java.util.List;
import java.util.Map;
import java.util.Set;

/**
 * A new DigHouse for one sentence of the document, its calls made by their names. What is not as due is printed with the
 * sentence and the calls ahead of it.
 */
final class Dig {
    static final int BAD = -1, STATE = -2, FULL = -3, RING = -4, NONE = -5;
    static final int NOTHING = -11, BEYOND = -12, CAST = -13, NOUGHT = -14, SIZE = -15, STORE = -16;

    private static final int MOST_CALLS = 512;
    private static final Set<String> ACTS = Set.of("unit", "above", "cut", "fill", "bond", "tray", "lose", "coin", "sample",
        "sherds", "note", "bag", "take", "move", "mark", "copy", "join", "span");
    private static final Map<String, Method> FACE = new HashMap<>();
    private static int looked;
    private static int wrong;
    /** In a trial a promise is broken on purpose, and the first wrong answer is what it waits for. */
    static boolean trial;

    static {
        for (Method m : DigHouse.class.getMethods()) {
            if (m.getDeclaringClass() == DigHouse.class) {
                FACE.put(m.getName(), m);
            }
        }
    }

    static final class Found extends RuntimeException {
        private static final long serialVersionUID = 1;

        Found(String what) {
            super(what);
        }
    }

    private record Call(String name, Object[] args) {
        @Override
        public String toString() {
            String all = Arrays.toString(args);
            return name + "(" + all.substring(1, all.length() - 1) + ")";
        }
    }

    private final String sentence;
    private final DigHouse house = new DigHouse();
    private final List<Call> calls = new ArrayList<>();

    Dig(String sentence) {
        this.sentence = sentence;
    }

    private static long make(DigHouse house, Call call) {
        Method m = FACE.get(call.name);
        Object[] args = call.args.clone();
        for (int i = 0; i < args.length; i++) {
            if (m.getParameterTypes()[i] == long.class) {
                args[i] = ((Number) args[i]).longValue();
            }
        }
        try {
            return ((Number) m.invoke(house, args)).longValue();
        } catch (InvocationTargetException e) {
            throw new IllegalStateException(call + " threw", e.getCause());
        } catch (IllegalAccessException e) {
            throw new IllegalStateException(e);
        }
    }

    private void look(String what, long got, long want) {
        looked++;
        if (got != want) {
            if (trial) {
                throw new Found(sentence);
            }
            wrong++;
            if (wrong <= 20) {
                List<Call> latest = calls.subList(Math.max(0, calls.size() - 40), calls.size());
                System.out.println("\"" + sentence + "\": " + what + " is " + got + ", due is " + want + ", after"
                    + (latest.size() < calls.size() ? " .. " : " ") + latest);
            }
        }
    }

    long answer(String name, Object... args) {
        Call call = new Call(name, args);
        calls.add(call);
        if (calls.size() > MOST_CALLS) {
            throw new IllegalStateException(sentence + ": more calls than an object is promised for");
        }
        return make(house, call);
    }

    Dig due(long want, String name, Object... args) {
        long got = answer(name, args);
        look("the answer", got, want);
        return this;
    }

    /** A call that tells by asked(). */
    Dig told(int want, String name, Object... args) {
        due(1, name, args);
        return due(want, "asked");
    }

    /** An act, or whatever else makes ready, that has to be done and whose answer is looked at elsewhere. */
    Dig does(String name, Object... args) {
        long got = answer(name, args);
        look("whether it is done", got >= 0 ? 1 : 0, 1);
        return this;
    }

    Dig units(int... kinds) {
        for (int kind : kinds) {
            does("unit", kind, 0);
        }
        return this;
    }

    Dig layers(int n) {
        return units(new int[n]);
    }

    /** The answers 0, 1, .. of a call with one number, behind them NONE, and NONE for numbers far out. */
    Dig list(String name, int... want) {
        for (int i = 0; i < want.length; i++) {
            due(want[i], name, i);
        }
        due(NONE, name, want.length);
        due(NONE, name, -1);
        due(NONE, name, Integer.MIN_VALUE);
        return due(NONE, name, Integer.MAX_VALUE);
    }

    private DigHouse twin() {
        DigHouse twin = new DigHouse();
        for (Call call : calls) {
            make(twin, call);
        }
        return twin;
    }

    private static List<Long> stateOf(DigHouse x, boolean withTrace) {
        List<Long> all = new ArrayList<>();
        all.add((long) x.asked());
        all.add(x.digest());
        for (int what : new int[] {0, 1, 2, 3, 4, 11, 12}) {
            all.add((long) x.count(what));
        }
        for (int i = 0; i < 4; i++) {
            all.add(withTrace ? x.trace(i) : 0L);
            all.add((long) x.place(i));
        }
        for (int i = 0; i < 8; i++) {
            all.add((long) x.because(i));
            all.add((long) x.asked());
        }
        all.add((long) x.next());
        all.add(x.orders());
        return all;
    }

    private static List<Long> ringOf(DigHouse x) {
        List<Long> all = new ArrayList<>();
        for (int i = 0; i < 4; i++) {
            all.add((long) x.ring(i));
        }
        return all;
    }

    /** The same calls on two more objects, and on one of them this one, too: what it changes is told by the document. */
    Dig refuses(int want, String name, Object... args) {
        DigHouse without = twin();
        due(want, name, args);
        DigHouse with = twin();
        boolean act = ACTS.contains(name);
        look("status() behind it", with.status(), act ? want : without.status());
        for (int finding = 1; finding <= 6; finding++) {
            int more = want == -10 - finding ? 1 : 0;
            look("how often FINDING " + finding + " came", with.count(4 + finding), without.count(4 + finding) + more);
        }
        if (want != RING) {
            look("whether THE RING stays", ringOf(with).equals(ringOf(without)) ? 1 : 0, 1);
        }
        boolean traceStays = !name.equals("asks") || want == BAD;
        List<Long> after = stateOf(with, traceStays);
        List<Long> before = stateOf(without, traceStays);
        look("whether all else stays, " + before + " and then " + after, after.equals(before) ? 1 : 0, 1);
        return this;
    }

    /** Left out: it answers 0, status() is 0, and nothing else changes. */
    Dig leavesOut(String name, Object... args) {
        DigHouse without = twin();
        due(0, name, args);
        DigHouse with = twin();
        look("status() behind it", with.status(), 0);
        look("whether THE RING stays", ringOf(with).equals(ringOf(without)) ? 1 : 0, 1);
        look("whether all else stays", stateOf(with, true).equals(stateOf(without, true)) ? 1 : 0, 1);
        return this;
    }

    static void end(String name) {
        if (trial) {
            return;
        }
        System.out.println(name + ": " + looked + " answers looked at, " + wrong + " not as due");
        if (wrong != 0) {
            System.exit(1);
        }
    }
}
