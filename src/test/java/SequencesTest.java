/** Promises 41 to 44: orders, first, next, place. */
public final class SequencesTest {
    private static final Check CHECK = new Check("SequencesTest");

    private static void due(String call, long got, long want) {
        CHECK.due(call, got, want);
    }

    private static DigHouse layers(int n) {
        DigHouse x = new DigHouse();
        for (int u = 0; u < n; u++) {
            x.unit(0, 0);
        }
        return x;
    }

    private static void dueSequence(DigHouse x, String when, int... names) {
        for (int i = 0; i < names.length; i++) {
            due(when + " place(" + i + ")", x.place(i), names[i]);
        }
        due(when + " place(" + names.length + ")", x.place(names.length), -5);
        due(when + " place(-1)", x.place(-1), -5);
    }

    private static void orders() {
        long factorial = 1;
        for (int n = 0; n <= 16; n++) {
            factorial *= Math.max(n, 1);
            due("orders() of " + n, layers(n).orders(), factorial);
        }
        due("orders() of 17", layers(17).orders(), -2);
        DigHouse x = layers(17);
        due("first() of 17", x.first(), -2);
        due("next()", x.next(), -2);
        due("place(0)", x.place(0), -5);
        due("status() is of ACTS", x.status(), 0);
        x.bond(16, 0);
        due("orders() of 16 BLOCKS", x.orders(), 20922789888000L);
        x.above(1, 16);
        due("half of them", x.orders(), 10461394944000L);
        for (int u = 2; u < 16; u++) {
            x.above(u, 0);
        }
        due("one ahead of 15", x.orders(), 1307674368000L);
        for (int u = 2; u < 16; u++) {
            x.above(u, u - 1);
        }
        due("a row", x.orders(), 1);
    }

    private static void walk() {
        DigHouse x = layers(4);
        due("next() before first()", x.next(), -2);
        x.above(0, 3);
        x.above(1, 3);
        due("orders()", x.orders(), 8);
        due("first()", x.first(), 4);
        dueSequence(x, "1", 2, 3, 0, 1);
        int[][] more = {{2, 3, 1, 0}, {3, 0, 1, 2}, {3, 0, 2, 1}, {3, 1, 0, 2}, {3, 1, 2, 0}, {3, 2, 0, 1}, {3, 2, 1, 0}};
        for (int[] row : more) {
            due("next()", x.next(), 1);
            dueSequence(x, "next", row);
        }
        due("next() behind the last", x.next(), 0);
        due("next() behind the last", x.next(), 0);
        dueSequence(x, "the last stays", 3, 2, 1, 0);
        due("first() again", x.first(), 4);
        dueSequence(x, "again", 2, 3, 0, 1);
    }

    private static void empty() {
        DigHouse x = new DigHouse();
        due("first() of none", x.first(), 0);
        dueSequence(x, "none");
        due("next() of none", x.next(), 0);
    }

    private static void atHand() {
        DigHouse x = layers(3);
        x.tray(0, 2);
        x.first();
        x.next();
        x.coin(0, 0, 1, 2);
        x.span(0, 1, 2);
        x.bond(0, 0);
        x.above(0, 0);
        x.cut(0, 1);
        x.fill(0, 1);
        x.unit(5, 0);
        x.orders();
        dueSequence(x, "others leave it", 0, 2, 1);
        x.undo();
        due("not after undo()", x.next(), -2);
        dueSequence(x, "none");
        x.first();
        x.bond(1, 2);
        due("not after bond()", x.next(), -2);
        due("first()", x.first(), 2);
        dueSequence(x, "bonded", 0, 1);
        x.above(0, 1);
        due("not after above()", x.next(), -2);
        x.first();
        dueSequence(x, "related", 1, 0);
        x.unit(1, 0);
        due("not after unit()", x.next(), -2);
        x.first();
        due("cut(3, 0)", x.cut(3, 0), 1);
        due("not after cut()", x.next(), -2);
        x.unit(2, 0);
        x.first();
        due("fill(4, 3)", x.fill(4, 3), 2);
        due("not after fill()", x.next(), -2);
        due("first()", x.first(), 4);
        dueSequence(x, "all", 1, 0, 3, 4);
        due("next()", x.next(), 0);
    }

    private static void longWalk() {
        DigHouse x = layers(16);
        due("first()", x.first(), 16);
        for (int i = 0; i < 120; i++) {
            due("next()", x.next(), 1);
        }
        dueSequence(x, "after 120 steps", 0, 1, 2, 3, 4, 5, 6, 7, 8, 9, 11, 10, 12, 13, 14, 15);
    }

    public static void main(String[] args) {
        orders();
        walk();
        empty();
        atHand();
        longWalk();
        CHECK.end();
    }
}
