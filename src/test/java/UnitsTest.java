/** Promises 1 to 5: a new object, unit, asks, asked, trace. */
public final class UnitsTest {
    private static final Check CHECK = new Check("UnitsTest");

    private static void due(String call, long got, long want) {
        CHECK.due(call, got, want);
    }

    private static void newObject() {
        DigHouse x = new DigHouse();
        for (int what = 0; what <= 12; what++) {
            due("new: count(" + what + ")", x.count(what), 0);
        }
        due("new: asked()", x.asked(), 0);
        due("new: status()", x.status(), 0);
        due("new: trace(0)", x.trace(0), -5);
        due("new: ring(0)", x.ring(0), -5);
        due("new: chart(0)", x.chart(0), -5);
        due("new: place(0)", x.place(0), -5);
        due("new: quarrel()", x.quarrel(), 0);
        due("new: because(0)", x.because(0), -5);
        due("new: next()", x.next(), -2);
        due("new: undo()", x.undo(), -2);
        due("new: orders()", x.orders(), 1);
        due("new: total(NONE, NONE)", x.total(-5, -5), 0);
        due("new: share(NONE, 0)", x.share(-5, 0), -14);
        due("new: digest()", x.digest(), 17);
    }

    private static void unit() {
        DigHouse x = new DigHouse();
        due("unit(-1, 0)", x.unit(-1, 0), -1);
        due("unit(5, 0)", x.unit(5, 0), -1);
        due("unit(0, -1)", x.unit(0, -1), -1);
        due("unit(0, 1000)", x.unit(0, 1000), -1);
        due("status()", x.status(), -1);
        due("count(4)", x.count(4), 0);
        for (int u = 0; u < 100; u++) {
            due("unit " + u, x.unit(u % 5, u == 99 ? 999 : u), u);
        }
        due("unit 100", x.unit(0, 0), -3);
        due("unit 100, BAD ahead of FULL", x.unit(0, 1000), -1);
        due("count(0)", x.count(0), 100);
        due("undo()", x.undo(), 99);
        due("unit 99 again", x.unit(4, 7), 99);
        due("its n", x.asks(99, 0), 1);
        due("1000 by -7", x.asked(), -142);
    }

    /** The answer, then the trace. */
    private static void ask(DigHouse x, int unit, int what, int answer, int... bodies) {
        String call = "asks(" + unit + ", " + what + ")";
        due(call, x.asks(unit, what), 1);
        due(call + " asked()", x.asked(), answer);
        for (int i = 0; i <= bodies.length; i++) {
            due(call + " trace(" + i + ")", x.trace(i), i < bodies.length ? bodies[i] : -5);
        }
        due(call + " trace(-1)", x.trace(-1), -5);
    }

    private static void asks() {
        DigHouse x = new DigHouse();
        for (int kind = 0; kind < 5; kind++) {
            x.unit(kind, 61);
        }
        ask(x, 0, 0, 61, 1);
        ask(x, 1, 0, -61, 4, 1);
        ask(x, 2, 0, 66, 2, 1);
        ask(x, 3, 0, 122, 3, 1);
        ask(x, 4, 0, -16, 5, 4, 1);
        ask(x, 0, 1, 5, 11);
        ask(x, 1, 1, 3, 10);
        ask(x, 2, 1, 5, 11);
        ask(x, 3, 1, 1, 12, 11);
        ask(x, 4, 1, 6, 13);
        ask(x, 0, 2, 11, 21);
        ask(x, 1, 2, 20, 20);
        ask(x, 2, 2, 11, 21);
        ask(x, 3, 2, 21, 22, 21);
        ask(x, 4, 2, 5, 23);
        ask(x, 0, 3, 85, 30);
        ask(x, 1, 3, 67, 31);
        ask(x, 2, 3, 85, 30);
        ask(x, 3, 3, 85, 30);
        ask(x, 4, 3, 66, 32, 31);
        ask(x, 0, 4, 0, 40);
        ask(x, 1, 4, 0, 40);
        ask(x, 2, 4, 0, 40);
        ask(x, 3, 4, 0, 40);
        ask(x, 4, 4, 1, 41);
    }

    private static void asksRefused() {
        DigHouse x = new DigHouse();
        x.unit(4, 0);
        x.unit(3, 60);
        ask(x, 1, 2, 20, 22, 21);
        due("asks(2, 0)", x.asks(2, 0), -1);
        due("asks(-1, 0)", x.asks(-1, 0), -1);
        due("asks(0, 5)", x.asks(0, 5), -1);
        due("asks(0, -1)", x.asks(0, -1), -1);
        due("trace(0) stays by BAD", x.trace(0), 22);
        due("asked() stays by BAD", x.asked(), 20);
        due("asks(0, 0)", x.asks(0, 0), -14);
        due("asked() stays by NOUGHT", x.asked(), 20);
        due("trace(0) by NOUGHT", x.trace(0), 5);
        due("trace(1) by NOUGHT", x.trace(1), 4);
        due("trace(2) by NOUGHT", x.trace(2), 1);
        due("trace(3) by NOUGHT", x.trace(3), -5);
        due("count(8)", x.count(8), 1);
        due("status() is of ACTS", x.status(), 0);
        x.tray(1, 3);
        x.drawn(1, 0);
        due("trace(0) is of asks() alone", x.trace(0), 5);
        x.undo();
        due("trace(0) stays by undo()", x.trace(0), 5);
    }

    public static void main(String[] args) {
        newObject();
        unit();
        asks();
        asksRefused();
        CHECK.end();
    }
}
