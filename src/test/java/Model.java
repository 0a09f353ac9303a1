import java.util.ArrayList;
import java.util.Arrays;
import java.util.HashMap;
import java.util.List;
import java.util.Map;
import java.util.function.ToIntFunction;

/** The document once more, as plainly as can be and however slow: undo does all acts anew. */
final class Model {
    static final int BAD = -1, STATE = -2, FULL = -3, RING = -4, NONE = -5;
    static final int NOTHING = -11, BEYOND = -12, CAST = -13, NOUGHT = -14, SIZE = -15, STORE = -16;

    record Unit(int kind, int n) { }

    record Relation(int how, int later, int earlier) { }

    record Bound(int value, int unit, int tray, int slot) { }

    record Join(int one, int other) { }

    static final class Find {
        int kind, mark;
        int[] sherds = new int[8];
        int first, last;
        String note = "";
        int bag;

        Find(int kind) {
            this.kind = kind;
        }

        Find twin() {
            Find f = new Find(kind);
            f.mark = mark;
            f.sherds = sherds.clone();
            f.first = first;
            f.last = last;
            f.note = note;
            f.bag = bag;
            return f;
        }
    }

    static final class Tray {
        int unit;
        Find[] slots;

        Tray(int unit, int n) {
            this.unit = unit;
            slots = new Find[n];
        }
    }

    static final class State {
        List<Unit> units = new ArrayList<>();
        List<int[]> spans = new ArrayList<>();
        List<int[]> bonds = new ArrayList<>();
        List<Relation> relations = new ArrayList<>();
        List<Tray> trays = new ArrayList<>();
        List<Join> joins = new ArrayList<>();
        List<Integer> ring;
        int whyCopyEnded;
        boolean web;
    }

    State s = new State();
    List<ToIntFunction<State>> book = new ArrayList<>();
    int[] findings = new int[6];
    int told, status;
    List<Integer> trace = new ArrayList<>(), ring = new ArrayList<>();
    List<List<Integer>> sequences;
    int atHand;

    // ---- acts

    private int act(boolean bad, boolean zeroIsLeftOut, ToIntFunction<State> what) {
        int answer;
        s.whyCopyEnded = 0;
        s.web = false;
        s.ring = null;
        if (bad) {
            answer = BAD;
        } else if (book.size() == 300) {
            answer = FULL;
        } else {
            answer = what.applyAsInt(s);
        }
        status = answer < 0 ? answer : s.whyCopyEnded;
        came(status);
        if (answer == RING) {
            ring = s.ring;
        }
        if (answer > 0 || answer == 0 && !zeroIsLeftOut) {
            book.add(what);
            if (s.web) {
                sequences = null;
            }
        }
        return answer;
    }

    private int came(int answer) {
        if (answer <= -11 && answer >= -16) {
            findings[-11 - answer]++;
        }
        return answer;
    }

    private boolean noUnit(int u) {
        return u < 0 || u >= s.units.size();
    }

    private boolean noTray(int t) {
        return t < 0 || t >= s.trays.size();
    }

    private static boolean noYear(int y) {
        return y < -10000 || y > 2100;
    }

    int unit(int kind, int n) {
        return act(kind < 0 || kind > 4 || n < 0 || n > 999, false, s -> {
            if (s.units.size() == 100) {
                return FULL;
            }
            s.web = true;
            s.units.add(new Unit(kind, n));
            s.spans.add(new int[] {-10000, 2100});
            return s.units.size() - 1;
        });
    }

    int above(int a, int b) {
        return act(noUnit(a) || noUnit(b), false, s -> relate(s, 0, a, b, true));
    }

    int cut(int c, int b) {
        return act(noUnit(c) || noUnit(b), false, s -> relate(s, 1, c, b, isCut(s, c)));
    }

    int fill(int f, int c) {
        return act(noUnit(f) || noUnit(c), false, s -> relate(s, 2, f, c, s.units.get(f).kind == 2 && isCut(s, c)));
    }

    private static boolean isCut(State s, int u) {
        return s.units.get(u).kind == 1 || s.units.get(u).kind == 4;
    }

    private static int relate(State s, int how, int a, int b, boolean suits) {
        if (s.relations.size() == 200) {
            return FULL;
        }
        if (!suits) {
            return CAST;
        }
        int[] names = blocks(s);
        if (names[a] == names[b]) {
            s.ring = new ArrayList<>();
            return RING;
        }
        List<Integer> row = shortest(s, names[b], names[a]);
        if (row != null) {
            s.ring = row;
            return RING;
        }
        s.web = true;
        s.relations.add(new Relation(how, a, b));
        return s.relations.size() - 1;
    }

    int bond(int a, int b) {
        return act(noUnit(a) || noUnit(b), true, s -> {
            int[] names = blocks(s);
            if (names[a] == names[b]) {
                return 0;
            }
            List<Integer> row = shortest(s, names[a], names[b]);
            row = row == null ? shortest(s, names[b], names[a]) : row;
            if (row != null) {
                s.ring = row;
                return RING;
            }
            s.web = true;
            s.bonds.add(new int[] {a, b});
            return 1;
        });
    }

    int tray(int unit, int n) {
        return act(noUnit(unit) || n > 40, false, s -> {
            int owned = 0;
            for (Tray t : s.trays) {
                owned += t.unit == unit ? 1 : 0;
            }
            int[] lent = {5, 3, 5, 1, 6};
            if (s.trays.size() == 60 || owned >= lent[s.units.get(unit).kind]) {
                return FULL;
            }
            if (n < 0) {
                return SIZE;
            }
            s.trays.add(new Tray(unit, n));
            return s.trays.size() - 1;
        });
    }

    int lose(int tray) {
        return act(noTray(tray), true, s -> {
            if (s.trays.get(tray).slots == null) {
                return 0;
            }
            s.trays.get(tray).slots = null;
            return 1;
        });
    }

    private static int look(State s, int tray, int slot) {
        Find[] slots = s.trays.get(tray).slots;
        return slots == null ? NOTHING : slot < 0 || slot >= slots.length ? BEYOND : 0;
    }

    private static int lookFor(State s, int tray, int slot, int kind) {
        int f = look(s, tray, slot);
        if (f != 0) {
            return f;
        }
        Find held = s.trays.get(tray).slots[slot];
        return held == null ? NOTHING : kind >= 0 && held.kind != kind ? CAST : 0;
    }

    private static Find held(State s, int tray, int slot) {
        return s.trays.get(tray).slots[slot];
    }

    private int putNew(boolean bad, int tray, int slot, Find find) {
        return act(bad, false, s -> {
            int f = look(s, tray, slot);
            if (f != 0) {
                return f;
            }
            if (held(s, tray, slot) != null) {
                return STATE;
            }
            s.trays.get(tray).slots[slot] = find.twin();
            return 1;
        });
    }

    int coin(int tray, int slot, int first, int last) {
        Find f = new Find(1);
        f.first = first;
        f.last = last;
        return putNew(noTray(tray) || noYear(first) || noYear(last) || last < first, tray, slot, f);
    }

    int sample(int tray, int slot, int year, int spread) {
        Find f = new Find(2);
        f.first = Float.floatToIntBits(Float.intBitsToFloat(year));
        f.last = Float.floatToIntBits(Float.intBitsToFloat(spread));
        return putNew(noTray(tray), tray, slot, f);
    }

    int sherds(int tray, int slot, int type, int n) {
        return act(noTray(tray) || n < -100 || n > 100, false, s -> {
            int f = look(s, tray, slot);
            if (f != 0) {
                return f;
            }
            Find old = held(s, tray, slot);
            if (old != null && old.kind != 0) {
                return CAST;
            }
            if (type < 0 || type > 7) {
                return BEYOND;
            }
            Find now = old == null ? new Find(0) : old;
            if (now.sherds[type] + n < 0 || now.sherds[type] + n > 100) {
                return STATE;
            }
            now.sherds[type] += n;
            s.trays.get(tray).slots[slot] = now;
            return now.sherds[type];
        });
    }

    int note(int tray, int slot, long w) {
        StringBuilder more = new StringBuilder();
        boolean bad = noTray(tray);
        for (int i = 0; i < 8; i++) {
            int b = (int) (w >> 8 * (7 - i)) & 0xff;
            if (b != 0) {
                bad = bad || b < 32 || b > 126;
                more.append((char) b);
            }
        }
        return act(bad || more.length() == 0, false, s -> {
            int f = look(s, tray, slot);
            if (f != 0) {
                return f;
            }
            Find old = held(s, tray, slot);
            if (old != null && old.kind != 3) {
                return CAST;
            }
            String text = (old == null ? "" : old.note) + more;
            if (text.length() > 40) {
                return STATE;
            }
            Find now = new Find(3);
            now.note = text;
            s.trays.get(tray).slots[slot] = now;
            return text.length();
        });
    }

    int bag(int tray, int slot, int n) {
        return act(noTray(tray) || n > 40, false, s -> {
            if (s.trays.size() == 60) {
                return FULL;
            }
            if (n < 0) {
                return SIZE;
            }
            int f = look(s, tray, slot);
            if (f != 0) {
                return f;
            }
            if (held(s, tray, slot) != null) {
                return STATE;
            }
            Find bag = new Find(4);
            bag.bag = s.trays.size();
            s.trays.get(tray).slots[slot] = bag;
            s.trays.add(new Tray(NONE, n));
            return bag.bag;
        });
    }

    int take(int tray, int slot) {
        return act(noTray(tray), false, s -> {
            int f = lookFor(s, tray, slot, -1);
            if (f != 0) {
                return f;
            }
            Find old = held(s, tray, slot);
            s.trays.get(tray).slots[slot] = null;
            return old.kind;
        });
    }

    /** All TRAYS that a BAG is and has in it. */
    private static void within(State s, int bag, List<Integer> all) {
        all.add(bag);
        if (s.trays.get(bag).slots != null) {
            for (Find f : s.trays.get(bag).slots) {
                if (f != null && f.kind == 4) {
                    within(s, f.bag, all);
                }
            }
        }
    }

    int move(int tray, int slot, int to, int other) {
        return act(noTray(tray) || noTray(to), false, s -> {
            int f = lookFor(s, tray, slot, -1);
            f = f == 0 ? look(s, to, other) : f;
            if (f != 0) {
                return f;
            }
            Find old = held(s, tray, slot);
            if (old.kind == 4) {
                List<Integer> own = new ArrayList<>();
                within(s, old.bag, own);
                if (own.contains(to)) {
                    return STORE;
                }
            }
            if (held(s, to, other) != null) {
                return STATE;
            }
            s.trays.get(tray).slots[slot] = null;
            s.trays.get(to).slots[other] = old;
            return old.kind;
        });
    }

    int mark(int tray, int slot, int m) {
        return act(noTray(tray) || m < 0 || m > 2, false, s -> {
            int f = lookFor(s, tray, slot, -1);
            if (f != 0) {
                return f;
            }
            Find held = held(s, tray, slot);
            if (held.kind != 1 && held.kind != 2) {
                return CAST;
            }
            int was = held.mark;
            held.mark = m;
            return was;
        });
    }

    int copy(int tray, int slot, int n, int to, int other) {
        return act(noTray(tray) || noTray(to) || n < 0 || n > 40, true, s -> {
            for (int k = 0; k < n; k++) {
                Find[] a = s.trays.get(tray).slots, b = s.trays.get(to).slots;
                long i = (long) slot + k, j = (long) other + k;
                if (a == null || b == null) {
                    s.whyCopyEnded = NOTHING;
                    return k;
                }
                if (i < 0 || i >= a.length || j < 0 || j >= b.length) {
                    s.whyCopyEnded = BEYOND;
                    return k;
                }
                Find from = a[(int) i], old = b[(int) j];
                if (from != null && from.kind == 4 || old != null && old.kind == 4) {
                    s.whyCopyEnded = STATE;
                    return k;
                }
                b[(int) j] = from == null ? null : from.twin();
            }
            return n;
        });
    }

    int join(int tray, int slot, int to, int other) {
        return act(noTray(tray) || noTray(to), false, s -> {
            int f = lookFor(s, tray, slot, 0);
            f = f == 0 ? lookFor(s, to, other, 0) : f;
            if (f != 0) {
                return f;
            }
            if (s.joins.size() == 80) {
                return FULL;
            }
            s.joins.add(new Join(unitOf(s, tray), unitOf(s, to)));
            return s.joins.size();
        });
    }

    int span(int unit, int first, int last) {
        return act(noUnit(unit) || noYear(first) || noYear(last) || last < first, false, s -> {
            s.spans.set(unit, new int[] {first, last});
            return 1;
        });
    }

    // ---- what follows

    static int[] blocks(State s) {
        int[] names = new int[s.units.size()];
        for (int u = 0; u < names.length; u++) {
            names[u] = u;
        }
        for (boolean again = true; again;) {
            again = false;
            for (int[] b : s.bonds) {
                int least = Math.min(names[b[0]], names[b[1]]);
                again = again || names[b[0]] != least || names[b[1]] != least;
                names[b[0]] = least;
                names[b[1]] = least;
            }
        }
        return names;
    }

    private static int compare(List<Integer> a, List<Integer> b) {
        for (int i = 0; i < a.size(); i++) {
            if (!a.get(i).equals(b.get(i))) {
                return a.get(i) - b.get(i);
            }
        }
        return 0;
    }

    /** Forward, level by level: the first of all rows of each length to each BLOCK. Null: no row. */
    static List<Integer> shortest(State s, int from, int to) {
        int[] names = blocks(s);
        Map<Integer, List<Integer>> level = new HashMap<>();
        level.put(from, new ArrayList<>());
        for (int n = 0; n <= names.length && !level.isEmpty(); n++) {
            if (level.containsKey(to)) {
                return level.get(to);
            }
            Map<Integer, List<Integer>> further = new HashMap<>();
            for (int r = 0; r < s.relations.size(); r++) {
                List<Integer> before = level.get(names[s.relations.get(r).later]);
                if (before != null) {
                    List<Integer> row = new ArrayList<>(before);
                    row.add(r);
                    int b = names[s.relations.get(r).earlier];
                    if (!further.containsKey(b) || compare(row, further.get(b)) < 0) {
                        further.put(b, row);
                    }
                }
            }
            level = further;
        }
        return null;
    }

    private static boolean[][] reach(State s) {
        int[] names = blocks(s);
        int n = names.length;
        boolean[][] reach = new boolean[n][n];
        for (Relation r : s.relations) {
            reach[names[r.later]][names[r.earlier]] = true;
        }
        for (int k = 0; k < n; k++) {
            for (int i = 0; i < n; i++) {
                for (int j = 0; reach[i][k] && j < n; j++) {
                    reach[i][j] |= reach[k][j];
                }
            }
        }
        return reach;
    }

    private boolean needless(int r) {
        int[] names = blocks(s);
        boolean[][] reach = reach(s);
        int x = names[s.relations.get(r).later], y = names[s.relations.get(r).earlier];
        for (int i = 0; i < s.relations.size(); i++) {
            int from = names[s.relations.get(i).later], to = names[s.relations.get(i).earlier];
            if (from == x && (to == y ? i < r : reach[to][y])) {
                return true;
            }
        }
        return false;
    }

    private List<Integer> theChart() {
        List<Integer> chart = new ArrayList<>();
        for (int r = 0; r < s.relations.size(); r++) {
            if (!needless(r)) {
                chart.add(r);
            }
        }
        return chart;
    }

    static int unitOf(State s, int tray) {
        for (int t = 0; t < s.trays.size(); t++) {
            if (s.trays.get(t).unit != NONE) {
                List<Integer> in = new ArrayList<>();
                within(s, t, in);
                if (in.contains(tray)) {
                    return s.trays.get(t).unit;
                }
            }
        }
        return NONE;
    }

    private List<Bound> bounds(int unit, boolean below) {
        List<Bound> all = new ArrayList<>();
        all.add(new Bound(s.spans.get(unit)[below ? 0 : 1], unit, NONE, NONE));
        Unit u = s.units.get(unit);
        for (int t = 0; t < s.trays.size(); t++) {
            Find[] slots = s.trays.get(t).slots;
            if (slots == null || unitOf(s, t) != unit) {
                continue;
            }
            for (int i = 0; i < slots.length; i++) {
                Find f = slots[i];
                if (f == null || f.mark == (below ? 1 : 2)) {
                    continue;
                }
                if (f.kind == 1 && below) {
                    all.add(new Bound(f.first, unit, t, i));
                } else if (f.kind == 1 && u.kind == 4) {
                    all.add(new Bound(f.last + 60, unit, t, i));
                } else if (f.kind == 2) {
                    float year = Float.intBitsToFloat(f.first), spread = Float.intBitsToFloat(f.last);
                    int[] margins = {u.n % 50, 20, u.n % 50, u.n % 50 + 10, 5};
                    if (Float.isFinite(year) && Float.isFinite(spread) && !(spread < 0)) {
                        float w = spread + margins[u.kind], lo = year - w, hi = year + w;
                        all.add(new Bound(below ? (int) Math.floor(lo) : (int) Math.ceil(hi), unit, t, i));
                    }
                }
            }
        }
        return all;
    }

    private Bound best(int block, boolean below) {
        int[] names = blocks(s);
        Bound best = null;
        for (int u = 0; u < names.length; u++) {
            for (Bound b : names[u] == block ? bounds(u, below) : new ArrayList<Bound>()) {
                if (best == null || (below ? b.value > best.value : b.value < best.value)) {
                    best = b;
                }
            }
        }
        return best;
    }

    private List<Integer> theQuarrel() {
        int[] names = blocks(s);
        boolean[][] reach = reach(s);
        Bound[] lows = new Bound[names.length], highs = new Bound[names.length];
        for (int x = 0; x < names.length; x++) {
            lows[x] = best(names[x], true);
            highs[x] = best(names[x], false);
        }
        List<Integer> told = null;
        int least = Integer.MAX_VALUE;
        for (int x = 0; x < names.length; x++) {
            for (int y = 0; y < names.length; y++) {
                if (names[x] != x || names[y] != y || x != y && !reach[y][x] || lows[x].value <= highs[y].value) {
                    continue;
                }
                List<Integer> row = x == y ? new ArrayList<>() : shortest(s, y, x);
                if (row.size() < least) {
                    least = row.size();
                    Bound f = lows[x], t = highs[y];
                    told = new ArrayList<>(Arrays.asList(f.unit, f.value, f.tray, f.slot, t.unit, t.value, t.tray, t.slot));
                    told.addAll(row);
                }
            }
        }
        return told;
    }

    private List<Integer> names() {
        int[] names = blocks(s);
        List<Integer> all = new ArrayList<>();
        for (int u = 0; u < names.length; u++) {
            if (names[u] == u) {
                all.add(u);
            }
        }
        return all;
    }

    private void generate(boolean[][] reach, List<Integer> left, List<Integer> row, List<List<Integer>> all) {
        if (left.isEmpty()) {
            all.add(new ArrayList<>(row));
        }
        for (int i = 0; i < left.size() && all.size() < 600; i++) {
            boolean may = true;
            for (int other : left) {
                may = may && !reach[left.get(i)][other];
            }
            if (may) {
                List<Integer> rest = new ArrayList<>(left);
                row.add(rest.remove(i));
                generate(reach, rest, row, all);
                row.remove(row.size() - 1);
            }
        }
    }

    private long ways(boolean[][] reach, List<Integer> left, Map<List<Integer>, Long> known) {
        if (left.isEmpty()) {
            return 1;
        }
        if (known.containsKey(left)) {
            return known.get(left);
        }
        long n = 0;
        for (int last : left) {
            boolean may = true;
            for (int other : left) {
                may = may && !reach[other][last];
            }
            if (may) {
                List<Integer> rest = new ArrayList<>(left);
                rest.remove((Integer) last);
                n += ways(reach, rest, known);
            }
        }
        known.put(left, n);
        return n;
    }

    // ---- questions

    int asks(int unit, int what) {
        if (noUnit(unit) || what < 0 || what > 4) {
            return BAD;
        }
        int kind = s.units.get(unit).kind, n = s.units.get(unit).n;
        int[][][] bodies = {
            {{1}, {4, 1}, {2, 1}, {3, 1}, {5, 4, 1}}, {{11}, {10}, {11}, {12, 11}, {13}},
            {{21}, {20}, {21}, {22, 21}, {23}}, {{30}, {31}, {30}, {30}, {32, 31}}, {{40}, {40}, {40}, {40}, {41}}};
        trace = new ArrayList<>();
        for (int b : bodies[what][kind]) {
            trace.add(b);
        }
        if (what == 0 && kind == 4 && n == 0) {
            return came(NOUGHT);
        }
        int[][] answers = {
            {n, -n, n + 5, 2 * n, n == 0 ? 0 : -(1000 / n)}, {5, 3, 5, 1, 6},
            {n % 50, 20, n % 50, n % 50 + 10, 5}, {85, 67, 85, 85, 66}, {0, 0, 0, 0, 1}};
        told = answers[what][kind];
        return 1;
    }

    int asked() {
        return told;
    }

    private static int at(List<Integer> list, int i) {
        return list != null && i >= 0 && i < list.size() ? list.get(i) : NONE;
    }

    int trace(int i) {
        return at(trace, i);
    }

    int ring(int i) {
        return at(ring, i);
    }

    int relation(int r, int what) {
        if (r < 0 || r >= s.relations.size() || what < 0 || what > 3) {
            return BAD;
        }
        Relation x = s.relations.get(r);
        return what == 0 ? x.how : what == 1 ? x.later : what == 2 ? x.earlier : needless(r) ? 1 : 0;
    }

    int later(int a, int b) {
        return noUnit(a) || noUnit(b) ? BAD : reach(s)[blocks(s)[a]][blocks(s)[b]] ? 1 : 0;
    }

    int block(int unit) {
        return noUnit(unit) ? BAD : blocks(s)[unit];
    }

    int chart(int i) {
        return at(theChart(), i);
    }

    int row(int unit) {
        if (noUnit(unit)) {
            return BAD;
        }
        int[] names = blocks(s);
        int[] rows = new int[names.length];
        for (int round = 0; round < names.length; round++) {
            for (Relation r : s.relations) {
                rows[names[r.later]] = Math.max(rows[names[r.later]], rows[names[r.earlier]] + 1);
            }
        }
        return rows[names[unit]];
    }

    int kind(int tray, int slot) {
        if (noTray(tray)) {
            return BAD;
        }
        int f = look(s, tray, slot);
        return f != 0 ? came(f) : held(s, tray, slot) == null ? NONE : held(s, tray, slot).kind;
    }

    private int looked(int tray, int slot, int kind) {
        return noTray(tray) ? BAD : came(lookFor(s, tray, slot, kind));
    }

    int sherd(int tray, int slot, int type) {
        int f = looked(tray, slot, 0);
        return f != 0 ? f : type < 0 || type > 7 ? came(BEYOND) : held(s, tray, slot).sherds[type];
    }

    private int tell(int f, int value) {
        told = f == 0 ? value : told;
        return f == 0 ? 1 : f;
    }

    int year(int tray, int slot, boolean last) {
        int f = looked(tray, slot, 1);
        return tell(f, f != 0 ? 0 : last ? held(s, tray, slot).last : held(s, tray, slot).first);
    }

    int grain(int tray, int slot, boolean spread) {
        int f = looked(tray, slot, 2);
        return tell(f, f != 0 ? 0 : spread ? held(s, tray, slot).last : held(s, tray, slot).first);
    }

    int letter(int tray, int slot, int k) {
        int f = looked(tray, slot, 3);
        return f != 0 ? f : k < 0 || k >= held(s, tray, slot).note.length() ? came(BEYOND) : held(s, tray, slot).note.charAt(k);
    }

    int bagged(int tray, int slot) {
        int f = looked(tray, slot, 4);
        return f != 0 ? f : held(s, tray, slot).bag;
    }

    int joins(int a, int b) {
        if (noUnit(a) || noUnit(b)) {
            return BAD;
        }
        int n = 0;
        for (Join j : s.joins) {
            n += j.one == a && j.other == b || j.one == b && j.other == a ? 1 : 0;
        }
        return n;
    }

    private int sherdsIn(int unit, int type) {
        int n = 0;
        for (int t = 0; t < s.trays.size(); t++) {
            int in = unitOf(s, t);
            if (s.trays.get(t).slots == null || in == NONE || unit != NONE && unit != in) {
                continue;
            }
            for (Find f : s.trays.get(t).slots) {
                for (int i = 0; f != null && f.kind == 0 && i < 8; i++) {
                    n += type == NONE || type == i ? f.sherds[i] : 0;
                }
            }
        }
        return n;
    }

    int total(int unit, int type) {
        return unit != NONE && noUnit(unit) || type != NONE && (type < 0 || type > 7) ? BAD : sherdsIn(unit, type);
    }

    int share(int unit, int type) {
        if (unit != NONE && noUnit(unit) || type < 0 || type > 7) {
            return BAD;
        }
        int all = sherdsIn(unit, NONE);
        return all == 0 ? came(NOUGHT) : (int) (1000L * sherdsIn(unit, type) / all);
    }

    int drawn(int unit, int what) {
        if (noUnit(unit) || what < 0 || what > 2) {
            return BAD;
        }
        int[] names = blocks(s);
        boolean[][] reach = reach(s);
        int b = names[unit], begin = Integer.MIN_VALUE, end = Integer.MAX_VALUE;
        for (int u = 0; u < names.length; u++) {
            if (names[u] == b || reach[b][names[u]]) {
                for (Bound x : bounds(u, true)) {
                    begin = Math.max(begin, x.value);
                }
            }
            if (names[u] == b || reach[names[u]][b]) {
                for (Bound x : bounds(u, false)) {
                    end = Math.min(end, x.value);
                }
            }
        }
        return tell(0, what == 0 ? begin : what == 1 ? end : begin > end ? 1 : 0);
    }

    int quarrel() {
        List<Integer> q = theQuarrel();
        return q == null ? 0 : q.size() - 7;
    }

    int because(int what) {
        List<Integer> q = theQuarrel();
        return q == null || what < 0 || what >= q.size() ? NONE : tell(0, q.get(what));
    }

    long orders() {
        return names().size() > 16 ? STATE : ways(reach(s), names(), new HashMap<>());
    }

    int first() {
        if (names().size() > 16) {
            return STATE;
        }
        sequences = new ArrayList<>();
        generate(reach(s), names(), new ArrayList<>(), sequences);
        atHand = 0;
        return names().size();
    }

    int next() {
        if (sequences == null) {
            return STATE;
        }
        if (atHand + 1 == sequences.size()) {
            return 0;
        }
        atHand++;
        return 1;
    }

    int place(int i) {
        return sequences == null ? NONE : at(sequences.get(atHand), i);
    }

    int undo() {
        if (book.isEmpty()) {
            return STATE;
        }
        book.remove(book.size() - 1);
        s = new State();
        for (ToIntFunction<State> act : book) {
            act.applyAsInt(s);
        }
        ring = new ArrayList<>();
        sequences = null;
        return book.size();
    }

    int count(int what) {
        int[] counts = {s.units.size(), s.relations.size(), names().size(), s.trays.size(), book.size()};
        if (what < 0 || what > 12) {
            return BAD;
        }
        return what < 5 ? counts[what] : what < 11 ? findings[what - 5] : what == 11 ? s.joins.size() : theChart().size();
    }

    int status() {
        return status;
    }

    long digest() {
        List<Integer> all = new ArrayList<>();
        for (int u = 0; u < s.units.size(); u++) {
            all.addAll(Arrays.asList(s.units.get(u).kind, s.units.get(u).n, blocks(s)[u], s.spans.get(u)[0], s.spans.get(u)[1]));
        }
        for (Relation r : s.relations) {
            all.addAll(Arrays.asList(r.how, r.later, r.earlier));
        }
        for (Tray t : s.trays) {
            all.add(t.slots == null ? -1 : t.slots.length);
            for (Find f : t.slots == null ? new Find[0] : t.slots) {
                if (f == null) {
                    all.add(-5);
                    continue;
                }
                all.addAll(Arrays.asList(f.kind, f.mark));
                for (int i = 0; f.kind == 0 && i < 8; i++) {
                    all.add(f.sherds[i]);
                }
                if (f.kind == 1 || f.kind == 2) {
                    all.addAll(Arrays.asList(f.first, f.last));
                }
                if (f.kind == 3) {
                    all.add(f.note.length());
                    for (char c : f.note.toCharArray()) {
                        all.add((int) c);
                    }
                }
                if (f.kind == 4) {
                    all.add(f.bag);
                }
            }
        }
        for (Join j : s.joins) {
            all.addAll(Arrays.asList(j.one, j.other));
        }
        long h = 17;
        for (int v : all) {
            h = 31 * h + v;
        }
        return h;
    }
}
