import java.util.ArrayDeque;
import java.util.Deque;
import java.util.Set;
import java.util.function.IntBinaryOperator;
import java.util.function.IntSupplier;
import java.util.function.IntUnaryOperator;
import java.util.function.LongSupplier;
import java.util.function.ToLongFunction;

/** Stands between a test and the class, and breaks one promise on purpose: see BrokenTest. */
final class Watch {
    enum How {
        /** Nothing is broken. */
        NOT,
        /** The call answers something else. */
        ANSWER,
        /** asked() answers something else behind the call. */
        TOLD,
        /** The act answers as is due, but is not done. */
        UNDONE,
        /** status() answers something else behind the act. */
        STATUS,
        /** The call's FINDING is not counted. */
        UNCOUNTED,
        /** The act is refused, but the latest one in THE BOOK goes. */
        REFUSED,
        /** The act is left out, but THE BOOK has one more. */
        ENTERED,
        /** undo() answers as is due, but the act stays. */
        STAYS,
        /** No SEQUENCE is AT HAND any more behind the call. */
        LOSES_HAND,
        /** There is no RING any more behind the call. */
        LOSES_RING,
        /** THE TRACE is empty behind the call. */
        LOSES_TRACE,
        /** asked() is 0 behind the call. */
        LOSES_ASKED,
        /** status() is 0 behind the call. */
        LOSES_STATUS,
        /** A SEQUENCE is AT HAND behind the call. */
        AT_HAND,
        /** A new object has something. */
        NEW,
        /** The argument 'which' is taken for one more than it is. */
        ONE_MORE,
        /** The argument 'which' is taken for one less than it is. */
        ONE_LESS,
        /** The arguments 'which' and 'what' are taken for one another. */
        SWAPPED
    }

    /** What is broken; which: of this answer alone, or an argument; what: of this last argument alone (ANY: of all), or another one. */
    record Broken(How how, String name, long which, long what) {
        boolean is(How other, String method) {
            return how == other && name.equals(method);
        }
    }

    static final long ANY = Long.MIN_VALUE;
    static final Set<String> ACTS = Set.of("unit", "above", "cut", "fill", "bond", "tray", "lose", "coin", "sample",
        "sherds", "note", "bag", "take", "move", "mark", "copy", "join", "span");
    static final Set<String> TELLING = Set.of("asks", "year", "grain", "drawn", "because");
    private static final Set<String> OF_KINDS = Set.of("take", "move", "kind", "mark");
    static Broken broken = new Broken(How.NOT, "", 0, ANY);

    private record Done(String name, LongSupplier call) {
    }

    private final IntUnaryOperator count;
    private final IntSupplier status;
    private final IntSupplier undo;
    private final IntBinaryOperator unit;
    private final IntSupplier first;
    private final Deque<Done> book = new ArrayDeque<>();
    private final int[] uncounted = new int[6];
    private String teller = "";
    private long tellersWhat;
    private String actor = "";
    private How lost = How.NOT;

    Watch(IntUnaryOperator count, IntSupplier status, IntSupplier undo, IntBinaryOperator unit, IntSupplier first) {
        this.count = count;
        this.status = status;
        this.undo = undo;
        this.unit = unit;
        this.first = first;
        if (broken.is(How.NEW, "DigHouse")) {
            enterUnit();
        }
    }

    private void enterUnit() {
        LongSupplier call = () -> unit.applyAsInt(0, 0);
        if (call.getAsLong() >= 0) {
            book.push(new Done("unit", call));
        }
    }

    /** Answers that are broken together: each below 0 by itself, and 0, 1, more; KINDS and MARKS by themselves. */
    static long sortOf(String name, long answer) {
        if (name.equals("digest")) {
            return 0;
        }
        return Math.min(answer, OF_KINDS.contains(name) ? 5 : 2);
    }

    private static long another(long answer) {
        if (answer < 0) {
            return answer == Dig.BAD ? Dig.STATE : Dig.BAD;
        }
        return answer == 0 ? 1 : answer - 1;
    }

    private boolean fits(String name, long answer, long what) {
        return sortOf(name, answer) == broken.which && (broken.what == ANY || broken.what == what);
    }

    private static long[] broken(String name, long... args) {
        long[] taken = args.clone();
        int which = (int) broken.which;
        if (broken.is(How.ONE_MORE, name)) {
            taken[which]++;
        } else if (broken.is(How.ONE_LESS, name)) {
            taken[which]--;
        } else if (broken.is(How.SWAPPED, name)) {
            taken[which] = args[(int) broken.what];
            taken[(int) broken.what] = args[which];
        }
        return taken;
    }

    long call(String name, ToLongFunction<long[]> face, long... args) {
        long[] taken = broken(name, args);
        LongSupplier call = () -> face.applyAsLong(taken);
        int acts = count.applyAsInt(4);
        long what = args.length == 0 ? ANY : args[args.length - 1];
        long answer = call.getAsLong();
        boolean act = ACTS.contains(name);
        boolean done = act && count.applyAsInt(4) > acts;
        if (act) {
            actor = name;
            breakAct(name, call, answer, done);
        }
        if (TELLING.contains(name) && answer == 1) {
            teller = name;
            tellersWhat = what;
        }
        if (name.equals("undo") && answer >= 0) {
            breakUndo(book.pop());
        }
        if (broken.is(How.UNCOUNTED, name)) {
            long finding = name.equals("copy") ? status.getAsInt() : answer;
            if (finding == broken.which) {
                uncounted[(int) (-11 - finding)]++;
            }
        }
        lose(name, answer);
        if (broken.is(How.AT_HAND, name) && (done || name.equals("undo") && answer >= 0)) {
            first.getAsInt();
        }
        return told(name, answer, what);
    }

    private void breakAct(String name, LongSupplier call, long answer, boolean done) {
        if (done && broken.is(How.UNDONE, name)) {
            undo.getAsInt();
        } else if (done) {
            book.push(new Done(name, call));
        } else if (answer < 0 && answer == broken.which && broken.is(How.REFUSED, name) && undo.getAsInt() >= 0) {
            book.pop();
        } else if (answer == 0 && broken.is(How.ENTERED, name)) {
            enterUnit();
        }
    }

    private void breakUndo(Done latest) {
        if (broken.is(How.STAYS, latest.name)) {
            latest.call.getAsLong();
            book.push(latest);
        }
    }

    private void lose(String name, long answer) {
        if (setsAnew(name, answer)) {
            lost = How.NOT;
        } else if (broken.how.name().startsWith("LOSES") && broken.name.equals(name)) {
            lost = broken.how;
        }
    }

    private static boolean setsAnew(String name, long answer) {
        switch (broken.how) {
            case LOSES_HAND:
                return name.equals("first") && answer >= 0;
            case LOSES_RING:
                return ACTS.contains(name) && answer == Dig.RING;
            case LOSES_TRACE:
                return name.equals("asks") && answer != Dig.BAD;
            case LOSES_ASKED:
                return TELLING.contains(name) && answer == 1;
            case LOSES_STATUS:
                return ACTS.contains(name);
            default:
                return false;
        }
    }

    private long lostOr(String name, long answer) {
        switch (lost) {
            case LOSES_HAND:
                return name.equals("place") ? Dig.NONE : name.equals("next") ? Dig.STATE : answer;
            case LOSES_RING:
                return name.equals("ring") ? Dig.NONE : answer;
            case LOSES_TRACE:
                return name.equals("trace") ? Dig.NONE : answer;
            case LOSES_ASKED:
                return name.equals("asked") ? 0 : answer;
            case LOSES_STATUS:
                return name.equals("status") ? 0 : answer;
            default:
                return answer;
        }
    }

    /** The answer as it is told, broken or not. */
    private long told(String name, long answer, long what) {
        if (broken.is(How.ANSWER, name) && fits(name, answer, what)) {
            return another(answer);
        }
        if (name.equals("asked") && broken.is(How.TOLD, teller) && broken.what == tellersWhat) {
            return answer + 1;
        }
        if (name.equals("status") && broken.is(How.STATUS, actor) && answer == broken.which) {
            return answer == 0 ? Dig.BAD : 0;
        }
        if (name.equals("count") && what >= 5 && what <= 10) {
            return answer - uncounted[(int) what - 5];
        }
        return lostOr(name, answer);
    }
}
