import java.util.ArrayList;
import java.util.List;
import java.util.Map;
import java.util.Random;
import java.util.TreeMap;

/** Random runs of calls, whose answers must be those of the Model. All promises. */
public final class ModelTest {
    private static final int[] ODD = {-1, -5, -2, 100, 60, 40, 41, 200, Integer.MAX_VALUE, Integer.MIN_VALUE, Integer.MAX_VALUE - 3};
    private static final float[] FLOATS = {
        0f, -0f, 1f, 0.5f, -0.5f, 1e-45f, -1e-45f, 1e30f, -1e30f, 3.4e38f, -3.4e38f, 16777216f, 8388607.5f, -8388607.5f,
        2.1474836e9f, -2.1474836e9f, 4e9f, Float.NaN, Float.POSITIVE_INFINITY, Float.NEGATIVE_INFINITY, 1.17549435E-38f};

    /** Of calls 15 .. 35 what the SLOT should hold. */
    private static final int[] WANTED = {-1, -1, -5, -5, 0, 3, -5, -1, 4, -1, 0, 1, 2, 3, 4, 1, -1, 0, -1, -1, -1};
    private static final Map<String, Integer> SEEN = new TreeMap<>();

    private final Random random;
    private final DigHouse dig = new DigHouse();
    private final Model model = new Model();
    private final int[] weights;
    private final int mostUnits;
    private final List<String> calls = new ArrayList<>();

    private ModelTest(long seed) {
        random = new Random(seed);
        mostUnits = new int[] {3, 6, 9, 14, 17, 30, 100}[random.nextInt(7)];
        weights = new int[48];
        for (int i = 0; i < weights.length; i++) {
            weights[i] = new int[] {1, 2, 4, 8}[random.nextInt(4)];
        }
        int profile = random.nextInt(5);
        if (profile == 0) {
            heavier(1, 5, 6, 7, 8);
        } else if (profile == 1) {
            heavier(15, 17, 18, 19, 20, 21, 23, 31, 32);
        } else if (profile == 2) {
            heavier(36, 17, 18, 30, 15, 5, 38, 39);
        }
        if (profile == 4) {
            // Nearly acts alone, so that THE BOOK gets FULL.
            heavier(0, 0, 5, 5, 5, 15, 17, 18, 19, 20, 21, 30, 32, 32, 36, 36, 36, 36);
            weights[44] = 1;
            return;
        }
        weights[44] = new int[] {0, 1, 3, 30}[random.nextInt(4)];
    }

    private void heavier(int... which) {
        for (int i : which) {
            weights[i] += 20;
        }
    }

    private int below(int n) {
        return random.nextInt(Math.max(n, 1));
    }

    private int odd() {
        return ODD[below(ODD.length)];
    }

    private int of(int size) {
        return below(25) == 0 ? (below(3) == 0 ? size : odd()) : below(size);
    }

    private int unit() {
        return of(model.s.units.size());
    }

    private int tray() {
        return of(model.s.trays.size());
    }

    /** Mostly a SLOT of the TRAY that holds what is wanted; -1: anything, NONE: it is EMPTY. */
    private int slot(int tray, int wanted) {
        if (below(20) == 0) {
            return odd();
        }
        Model.Find[] slots = tray < 0 || tray >= model.s.trays.size() ? null : model.s.trays.get(tray).slots;
        if (slots == null || slots.length == 0) {
            return below(5);
        }
        int slot = below(slots.length);
        for (int i = 0; i < slots.length && below(30) != 0 && wanted != -1; i++) {
            Model.Find held = slots[(slot + i) % slots.length];
            if ((held == null ? -5 : held.kind) == wanted) {
                return (slot + i) % slots.length;
            }
        }
        return slot;
    }

    private int size() {
        return below(15) == 0 ? odd() : below(4) == 0 ? below(41) : below(7);
    }

    private int year() {
        return below(30) == 0 ? new int[] {-10000, -10001, 2100, 2101, odd()}[below(5)] : below(600);
    }

    private int bits() {
        switch (below(6)) {
            case 0:
                return random.nextInt();
            case 1:
                return Float.floatToRawIntBits(FLOATS[below(FLOATS.length)]);
            case 2:
                return Float.floatToRawIntBits((below(40000) - 20000) / 16f);
            default:
                return Float.floatToRawIntBits(below(9600) / 16f);
        }
    }

    private long word() {
        long w = 0;
        for (int i = 0; i < 8; i++) {
            int b = below(2) == 0 ? 0 : below(300) == 0 ? below(256) : 32 + below(95);
            w = w << 8 | b;
        }
        return w;
    }

    private int pick() {
        int all = 0;
        for (int w : weights) {
            all += w;
        }
        int at = below(all);
        for (int i = 0; i < weights.length; i++) {
            at -= weights[i];
            if (at < 0) {
                return i;
            }
        }
        return 0;
    }

    private boolean same(String call, long got, long want) {
        calls.add(call + " = " + got);
        SEEN.merge(call.substring(0, call.indexOf('(')) + " " + (got < 0 && got > -17 ? got : got == 0 ? "0" : "+"), 1, Integer::sum);
        if (got != want) {
            System.out.println(String.join("\n", calls));
            System.out.println("due is " + want);
        }
        return got == want;
    }

    private static String name(String call, Object... args) {
        StringBuilder b = new StringBuilder(call).append('(');
        for (int i = 0; i < args.length; i++) {
            b.append(i == 0 ? "" : ", ").append(args[i]);
        }
        return b.append(')').toString();
    }

    private boolean step() {
        int call = pick();
        return call < 15 ? stepWeb(call) : call < 36 ? stepTrays(call) : stepRest(call);
    }

    private boolean stepWeb(int call) {
        int a = unit(), b = unit(), i = below(6) - 1;
        switch (call) {
            case 0: case 1: {
                if (model.s.units.size() >= mostUnits && below(20) != 0) {
                    return true;
                }
                int kind = below(40) == 0 ? odd() : below(5);
                int n = below(40) == 0 ? new int[] {-1, 1000, 999, odd()}[below(4)] : below(3) == 0 ? 0 : below(1000);
                return same(name("unit", kind, n), dig.unit(kind, n), model.unit(kind, n));
            }
            case 2: {
                int what = below(7) - 1;
                return same(name("asks", a, what), dig.asks(a, what), model.asks(a, what));
            }
            case 3: return same("asked()", dig.asked(), model.asked());
            case 4: return same(name("trace", i), dig.trace(i), model.trace(i));
            case 5: return same(name("above", a, b), dig.above(a, b), model.above(a, b));
            case 6: return same(name("cut", a, b), dig.cut(a, b), model.cut(a, b));
            case 7: return same(name("fill", a, b), dig.fill(a, b), model.fill(a, b));
            case 8: return below(3) != 0 || same(name("bond", a, b), dig.bond(a, b), model.bond(a, b));
            case 9: return same(name("ring", i), dig.ring(i), model.ring(i));
            case 10: {
                int r = of(model.s.relations.size()), what = below(6) - 1;
                return same(name("relation", r, what), dig.relation(r, what), model.relation(r, what));
            }
            case 11: return same(name("later", a, b), dig.later(a, b), model.later(a, b));
            case 12: return same(name("block", a), dig.block(a), model.block(a));
            case 13: {
                int c = of(model.s.relations.size());
                return same(name("chart", c), dig.chart(c), model.chart(c));
            }
            default: return same(name("row", a), dig.row(a), model.row(a));
        }
    }

    private boolean stepTrays(int call) {
        int u = unit(), v = unit(), t = tray(), o = tray(), n = size();
        int s = slot(t, below(6) == 0 ? -1 : WANTED[call - 15]);
        int p = slot(o, below(6) == 0 ? -1 : call == 23 ? -5 : call == 32 ? 0 : -1);
        boolean flag = random.nextBoolean();
        int type = below(12) == 0 ? new int[] {-1, 8, -5, odd()}[below(4)] : below(8);
        switch (call) {
            case 15: return same(name("tray", u, n), dig.tray(u, n), model.tray(u, n));
            case 16: return below(3) != 0 || same(name("lose", t), dig.lose(t), model.lose(t));
            case 17: {
                int first = year(), last = first + below(90) - 5;
                return same(name("coin", t, s, first, last), dig.coin(t, s, first, last), model.coin(t, s, first, last));
            }
            case 18: {
                int year = bits(), spread = bits();
                return same(name("sample", t, s, year, spread), dig.sample(t, s, year, spread), model.sample(t, s, year, spread));
            }
            case 19: {
                int more = below(30) == 0 ? new int[] {-101, 101, 100, -100, odd()}[below(5)] : below(4) == 0 ? -below(60) : below(60);
                return same(name("sherds", t, s, type, more), dig.sherds(t, s, type, more), model.sherds(t, s, type, more));
            }
            case 20: {
                long w = word();
                return same(name("note", t, s, w), dig.note(t, s, w), model.note(t, s, w));
            }
            case 21: return same(name("bag", t, s, n), dig.bag(t, s, n), model.bag(t, s, n));
            case 22: return same(name("take", t, s), dig.take(t, s), model.take(t, s));
            case 23: return same(name("move", t, s, o, p), dig.move(t, s, o, p), model.move(t, s, o, p));
            case 24: return same(name("kind", t, s), dig.kind(t, s), model.kind(t, s));
            case 25: return same(name("sherd", t, s, type), dig.sherd(t, s, type), model.sherd(t, s, type));
            case 26: return same(name("year", t, s, flag), dig.year(t, s, flag), model.year(t, s, flag));
            case 27: return same(name("grain", t, s, flag), dig.grain(t, s, flag), model.grain(t, s, flag));
            case 28: return same(name("letter", t, s, p), dig.letter(t, s, p), model.letter(t, s, p));
            case 29: return same(name("bagged", t, s), dig.bagged(t, s), model.bagged(t, s));
            case 30: {
                int m = below(15) == 0 ? odd() : below(3);
                return same(name("mark", t, s, m), dig.mark(t, s, m), model.mark(t, s, m));
            }
            case 31: return same(name("copy", t, s, n, o, p), dig.copy(t, s, n, o, p), model.copy(t, s, n, o, p));
            case 32: return same(name("join", t, s, o, p), dig.join(t, s, o, p), model.join(t, s, o, p));
            case 33: return same(name("joins", u, v), dig.joins(u, v), model.joins(u, v));
            case 34: {
                int in = below(3) == 0 ? -5 : u, ty = below(3) == 0 ? -5 : type;
                return same(name("total", in, ty), dig.total(in, ty), model.total(in, ty));
            }
            default: {
                int in = below(3) == 0 ? -5 : u;
                return same(name("share", in, type), dig.share(in, type), model.share(in, type));
            }
        }
    }

    private boolean stepRest(int call) {
        int u = unit(), i = below(18) - 1;
        switch (call) {
            case 36: {
                int first = below(4) == 0 ? -10000 : year(), last = below(4) == 0 ? 2100 : first + below(400) - 10;
                return same(name("span", u, first, last), dig.span(u, first, last), model.span(u, first, last));
            }
            case 37: {
                int what = below(5) - 1;
                return same(name("drawn", u, what), dig.drawn(u, what), model.drawn(u, what));
            }
            case 38: return same("quarrel()", dig.quarrel(), model.quarrel());
            case 39: return same(name("because", i), dig.because(i), model.because(i))
                && same("asked()", dig.asked(), model.asked());
            case 40: return same("orders()", dig.orders(), model.orders());
            case 41: return same("first()", dig.first(), model.first());
            case 42: return same("next()", dig.next(), model.next());
            case 43: return same(name("place", i), dig.place(i), model.place(i));
            case 44: return same("undo()", dig.undo(), model.undo());
            case 45: return same(name("count", i - 1), dig.count(i - 1), model.count(i - 1));
            case 46: return same("status()", dig.status(), model.status());
            default: return same("digest()", dig.digest(), model.digest());
        }
    }

    private boolean sameAtLast() {
        boolean same = same("digest()", dig.digest(), model.digest()) && same("quarrel()", dig.quarrel(), model.quarrel())
            && same("orders()", dig.orders(), model.orders());
        for (int i = -1; same && i < 14; i++) {
            same = same(name("count", i), dig.count(i), model.count(i)) && same(name("because", i), dig.because(i), model.because(i))
                && same("asked()", dig.asked(), model.asked()) && same(name("ring", i), dig.ring(i), model.ring(i));
        }
        for (int u = 0; same && u < model.s.units.size(); u++) {
            for (int what = 0; same && what < 3; what++) {
                same = same(name("drawn", u, what), dig.drawn(u, what), model.drawn(u, what))
                    && same("asked()", dig.asked(), model.asked()) && same(name("row", u), dig.row(u), model.row(u));
            }
        }
        return same;
    }

    public static void main(String[] args) {
        int runs = args.length > 0 ? Integer.parseInt(args[0]) : 600;
        long from = args.length > 1 ? Long.parseLong(args[1]) : 1;
        long calls = 0;
        for (long seed = from; seed < from + runs; seed++) {
            ModelTest run = new ModelTest(seed);
            boolean same = true;
            for (int i = 0; same && i < run.mostUnits && i < 20; i++) {
                same = run.stepWeb(0);
            }
            for (int i = 0; same && i < 500; i++) {
                same = run.step();
            }
            if (!same || !run.sameAtLast()) {
                System.out.println("ModelTest: the run of seed " + seed + " is not as due");
                System.exit(1);
            }
            calls += run.calls.size();
        }
        if (args.length > 2) {
            System.out.println(SEEN);
        }
        System.out.println("ModelTest: " + calls + " answers in " + runs + " runs, all as due");
    }
}
