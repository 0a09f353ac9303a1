/** Promises 45 to 48: undo, count, status, digest; and THE BOOK, when it is full. */
public final class BookTest {
    private static final Check CHECK = new Check("BookTest");

    private static void due(String call, long got, long want) {
        CHECK.due(call, got, want);
    }

    /** One act of every sort, number by number. */
    private static int act(DigHouse x, int which) {
        switch (which) {
            case 0: return x.unit(0, 12);
            case 1: return x.unit(1, 13);
            case 2: return x.unit(2, 14);
            case 3: return x.unit(4, 15);
            case 4: return x.above(0, 1);
            case 5: return x.cut(3, 0);
            case 6: return x.fill(2, 1);
            case 7: return x.bond(2, 0);
            case 8: return x.tray(0, 4);
            case 9: return x.tray(3, 5);
            case 10: return x.coin(0, 0, 1, 2);
            case 11: return x.mark(0, 0, 1);
            case 12: return x.sample(0, 1, 1, -1);
            case 13: return x.sherds(0, 2, 3, 9);
            case 14: return x.sherds(0, 2, 4, 9);
            case 15: return x.note(0, 3, 0x4142);
            case 16: return x.note(0, 3, 0x4344);
            case 17: return x.bag(1, 0, 2);
            case 18: return x.move(0, 1, 2, 0);
            case 19: return x.join(0, 2, 0, 2);
            case 20: return x.copy(0, 0, 4, 1, 1);
            case 21: return x.move(1, 0, 0, 1);
            case 22: return x.take(0, 1);
            case 23: return x.span(1, 5, 6);
            case 24: return x.lose(0);
            default: throw new IllegalArgumentException("no such act");
        }
    }

    private static void undo() {
        DigHouse x = new DigHouse();
        long[] digests = new long[26];
        int[] answers = new int[25];
        for (int i = 0; i < 25; i++) {
            digests[i] = x.digest();
            answers[i] = act(x, i);
            due("act " + i + " is done", answers[i] >= 0 ? 1 : 0, 1);
            due("another digest after act " + i, x.digest() == digests[i] ? 1 : 0, 0);
        }
        digests[25] = x.digest();
        for (int i = 24; i >= 0; i--) {
            due("undo() of act " + i, x.undo(), i);
            due("digest() as before act " + i, x.digest(), digests[i]);
        }
        due("undo() of none", x.undo(), -2);
        for (int i = 0; i < 25; i++) {
            due("act " + i + " again", act(x, i), answers[i]);
        }
        due("digest() again", x.digest(), digests[25]);
    }

    private static void undoAll() {
        DigHouse x = new DigHouse();
        for (int i = 0; i < 24; i++) {
            act(x, i);
        }
        for (int i = 24; i < 230; i++) {
            due("copy " + i, x.copy(0, 0, 3, 1, i % 3), 3);
        }
        for (int i = 229; i >= 0; i--) {
            due("undo() to " + i, x.undo(), i);
        }
        due("digest() of nothing", x.digest(), 17);
        for (int what = 0; what <= 12; what++) {
            due("count(" + what + ") of nothing", x.count(what), 0);
        }
        due("unit(1, 0)", x.unit(1, 0), 0);
        due("digest() of a CUT", x.digest(), hash(1, 0, 0, -10000, 2100));
    }

    private static void staysByUndo() {
        DigHouse x = new DigHouse();
        x.unit(0, 7);
        x.tray(0, 1);
        x.asks(0, 0);
        x.kind(0, 1);
        x.coin(0, 1, 1, 2);
        due("undo()", x.undo(), 1);
        due("status() stays", x.status(), -12);
        due("asked() stays", x.asked(), 7);
        due("trace(0) stays", x.trace(0), 1);
        due("count(6) stays", x.count(6), 2);
        due("count(3)", x.count(3), 0);
        x.undo();
        due("undo() of none", x.undo(), -2);
        due("status() is not of undo()", x.status(), -12);
    }

    private static void count() {
        DigHouse x = new DigHouse();
        for (int i = 0; i < 24; i++) {
            act(x, i);
        }
        x.kind(0, 9);
        x.year(0, 2, true);
        x.take(0, 1);
        x.tray(0, -1);
        x.share(0, 3);
        x.share(1, 3);
        x.bag(1, 0, 1);
        x.move(1, 0, 3, 0);
        int[] due = {4, 3, 3, 4, 25, 1, 1, 1, 1, 1, 1, 1, 2};
        for (int what = 0; what <= 12; what++) {
            due("count(" + what + ")", x.count(what), due[what]);
        }
        due("count(13)", x.count(13), -1);
        due("count(-1)", x.count(-1), -1);
    }

    private static void status() {
        DigHouse x = new DigHouse();
        due("status()", x.status(), 0);
        x.unit(9, 9);
        due("status() BAD", x.status(), -1);
        x.unit(4, 0);
        due("status() 0", x.status(), 0);
        x.above(0, 0);
        due("status() RING", x.status(), -4);
        x.bond(0, 0);
        due("status() of what is left out", x.status(), 0);
        x.tray(0, -1);
        due("status() SIZE", x.status(), -15);
        x.asks(0, 0);
        x.block(7);
        x.first();
        x.undo();
        due("status() is of ACTS", x.status(), -15);
    }

    private static void full() {
        DigHouse x = new DigHouse();
        for (int i = 0; i < 24; i++) {
            act(x, i);
        }
        x.bag(1, 0, 2);
        x.lose(3);
        for (int i = 26; i < 300; i++) {
            due("act " + i, x.span(0, 1, i), 1);
        }
        due("count(4)", x.count(4), 300);
        long digest = x.digest();
        due("unit", x.unit(0, 0), -3);
        due("above", x.above(0, 1), -3);
        due("above, RING behind", x.above(1, 0), -3);
        due("cut, CAST behind", x.cut(0, 1), -3);
        due("fill", x.fill(2, 1), -3);
        due("bond", x.bond(1, 3), -3);
        due("bond that would be left out", x.bond(2, 0), -3);
        due("tray", x.tray(0, 1), -3);
        due("lose", x.lose(0), -3);
        due("lose that would be left out", x.lose(3), -3);
        due("coin", x.coin(0, 1, 1, 2), -3);
        due("coin, BEYOND behind", x.coin(0, 9, 1, 2), -3);
        due("sample", x.sample(0, 1, 1, 2), -3);
        due("sherds", x.sherds(0, 2, 1, 2), -3);
        due("note", x.note(0, 3, 65), -3);
        due("bag", x.bag(0, 1, 2), -3);
        due("bag, SIZE behind", x.bag(0, 1, -2), -3);
        due("take", x.take(0, 0), -3);
        due("move", x.move(0, 0, 0, 1), -3);
        due("mark", x.mark(0, 0, 1), -3);
        due("copy", x.copy(0, 0, 1, 0, 1), -3);
        due("copy of none", x.copy(0, 0, 0, 0, 1), -3);
        due("join", x.join(0, 2, 0, 2), -3);
        due("span", x.span(0, 1, 2), -3);
        due("status()", x.status(), -3);
        due("no FINDINGS came", x.count(5) + x.count(6) + x.count(7) + x.count(8) + x.count(9) + x.count(10), 0);
        due("digest()", x.digest(), digest);
        due("BAD ahead of FULL", x.unit(5, 0), -1);
        due("BAD ahead of FULL", x.above(0, 9), -1);
        due("BAD ahead of FULL", x.bond(0, 9), -1);
        due("BAD ahead of FULL", x.tray(0, 41), -1);
        due("BAD ahead of FULL", x.lose(9), -1);
        due("BAD ahead of FULL", x.coin(0, 1, 2, 1), -1);
        due("BAD ahead of FULL", x.sample(9, 1, 2, 1), -1);
        due("BAD ahead of FULL", x.sherds(0, 1, 2, 101), -1);
        due("BAD ahead of FULL", x.note(0, 1, 0), -1);
        due("BAD ahead of FULL", x.bag(0, 1, 41), -1);
        due("BAD ahead of FULL", x.take(9, 0), -1);
        due("BAD ahead of FULL", x.move(0, 0, 9, 0), -1);
        due("BAD ahead of FULL", x.mark(0, 0, 3), -1);
        due("BAD ahead of FULL", x.copy(0, 0, 41, 0, 1), -1);
        due("BAD ahead of FULL", x.join(0, 2, 9, 2), -1);
        due("BAD ahead of FULL", x.span(0, 2, 1), -1);
        due("undo()", x.undo(), 299);
        due("unit", x.unit(0, 0), 4);
        due("unit", x.unit(0, 0), -3);
    }

    private static long hash(long... values) {
        long h = 17;
        for (long v : values) {
            h = 31 * h + v;
        }
        return h;
    }

    private static void digest() {
        DigHouse x = new DigHouse();
        due("digest() of nothing", x.digest(), 17);
        x.unit(4, 999);
        due("of a UNIT", x.digest(), hash(4, 999, 0, -10000, 2100));
        x.span(0, -3, 5);
        x.unit(0, 1);
        x.unit(0, 2);
        x.bond(1, 2);
        x.cut(0, 2);
        due("of a RELATION", x.digest(), hash(4, 999, 0, -3, 5, 0, 1, 1, -10000, 2100, 0, 2, 1, -10000, 2100, 1, 0, 2));
        x = new DigHouse();
        x.unit(4, 0);
        x.tray(0, 6);
        x.coin(0, 0, -7, 8);
        x.mark(0, 0, 2);
        x.sample(0, 1, 0xff800001, 0x80000000);
        x.sherds(0, 2, 7, 9);
        x.note(0, 3, 0x4142);
        x.bag(0, 4, 1);
        long units = hash(4, 0, 0, -10000, 2100);
        long[] rest = {6, 1, 2, -7, 8, 2, 0, 2143289344, Integer.MIN_VALUE, 0, 0, 0, 0, 0, 0, 0, 0, 0, 9, 3, 0, 2, 65, 66, 4, 0, 1, -5, 1, -5};
        long h = units;
        for (long v : rest) {
            h = 31 * h + v;
        }
        due("of TRAYS", x.digest(), h);
        x.join(0, 2, 0, 2);
        due("of JOINS", x.digest(), (h * 31) * 31);
        x.sherds(1, 0, 0, 0);
        x.take(0, 4);
        x.join(1, 0, 0, 2);
        x.lose(0);
        x.lose(1);
        h = units;
        for (long v : new long[] {-1, -1, 0, 0, -5, 0}) {
            h = 31 * h + v;
        }
        due("of LOST ones", x.digest(), h);
    }

    public static void main(String[] args) {
        undo();
        undoAll();
        staysByUndo();
        count();
        status();
        full();
        digest();
        CHECK.end();
    }
}
