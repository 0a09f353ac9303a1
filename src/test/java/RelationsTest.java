/** Promises 6 to 15: above, cut, fill, bond, ring, relation, later, block, chart, row. */
public final class RelationsTest {
    private static final Check CHECK = new Check("RelationsTest");

    private static void due(String call, long got, long want) {
        CHECK.due(call, got, want);
    }

    private static DigHouse layers(int n) {
        DigHouse x = new DigHouse();
        for (int u = 0; u < n; u++) {
            x.unit(0, u);
        }
        return x;
    }

    private static void dueRing(DigHouse x, String after, int... relations) {
        for (int i = 0; i < relations.length; i++) {
            due(after + " ring(" + i + ")", x.ring(i), relations[i]);
        }
        due(after + " ring(" + relations.length + ")", x.ring(relations.length), -5);
        due(after + " ring(-1)", x.ring(-1), -5);
    }

    private static void dueChart(DigHouse x, String after, int... relations) {
        due(after + " count(12)", x.count(12), relations.length);
        for (int i = 0; i < relations.length; i++) {
            due(after + " chart(" + i + ")", x.chart(i), relations[i]);
        }
        due(after + " chart(" + relations.length + ")", x.chart(relations.length), -5);
        due(after + " chart(-1)", x.chart(-1), -5);
    }

    private static void above() {
        DigHouse x = layers(3);
        due("above(0, 1)", x.above(0, 1), 0);
        due("above(0, 1) twice", x.above(0, 1), 1);
        due("above(3, 1)", x.above(3, 1), -1);
        due("above(0, -1)", x.above(0, -1), -1);
        due("status()", x.status(), -1);
        due("above(2, 2)", x.above(2, 2), -4);
        due("status()", x.status(), -4);
        dueRing(x, "above(2, 2)");
        due("above(1, 0)", x.above(1, 0), -4);
        dueRing(x, "above(1, 0)", 0);
        due("count(1)", x.count(1), 2);
        for (int r = 2; r < 200; r++) {
            due("above " + r, x.above(0, 2), r);
        }
        due("above 200", x.above(0, 2), -3);
        due("above 200, BAD first", x.above(0, 3), -1);
        due("above 200, RING behind FULL", x.above(2, 0), -3);
        due("cut 200, CAST behind FULL", x.cut(0, 2), -3);
    }

    private static void cutAndFill() {
        DigHouse x = new DigHouse();
        for (int kind = 0; kind < 5; kind++) {
            x.unit(kind, 0);
        }
        int[] cuts = {-13, 0, -13, -13, 1};
        for (int kind = 0; kind < 5; kind++) {
            due("cut(" + kind + ", 0)", x.cut(kind, 0), kind == 0 ? -13 : cuts[kind]);
        }
        due("cut(1, 5)", x.cut(1, 5), -1);
        due("cut(5, 1)", x.cut(5, 1), -1);
        due("cut(1, 1)", x.cut(1, 1), -4);
        due("cut(0, 1): CAST ahead of RING", x.cut(0, 1), -13);
        due("fill(2, 1)", x.fill(2, 1), 2);
        due("fill(2, 4)", x.fill(2, 4), 3);
        due("fill(0, 1)", x.fill(0, 1), -13);
        due("fill(3, 1)", x.fill(3, 1), -13);
        due("fill(2, 0)", x.fill(2, 0), -13);
        due("fill(2, 3)", x.fill(2, 3), -13);
        due("fill(2, 2)", x.fill(2, 2), -13);
        due("fill(2, 5)", x.fill(2, 5), -1);
        due("fill(-1, 1)", x.fill(-1, 1), -1);
        due("count(7): CAST", x.count(7), 9);
        due("cut(4, 2)", x.cut(4, 2), -4);
        dueRing(x, "cut(4, 2)", 3);
        x.above(1, 3);
        due("fill(2, 1) again", x.fill(2, 1), 5);
        due("above(3, 4)", x.above(3, 4), 6);
        due("above(4, 1)", x.above(4, 1), -4);
        dueRing(x, "above(4, 1)", 4, 6);
    }

    private static void bond() {
        DigHouse x = layers(5);
        due("bond(3, 1)", x.bond(3, 1), 1);
        due("bond(1, 3)", x.bond(1, 3), 0);
        due("bond(2, 2)", x.bond(2, 2), 0);
        due("count(4)", x.count(4), 6);
        due("bond(5, 0)", x.bond(5, 0), -1);
        due("bond(0, -1)", x.bond(0, -1), -1);
        due("block(3)", x.block(3), 1);
        due("bond(3, 4)", x.bond(3, 4), 1);
        due("block(4)", x.block(4), 1);
        due("bond(4, 0)", x.bond(4, 0), 1);
        for (int u = 0; u < 5; u++) {
            due("block(" + u + ")", x.block(u), u == 2 ? 2 : 0);
        }
        due("block(5)", x.block(5), -1);
        due("block(-1)", x.block(-1), -1);
        due("count(2)", x.count(2), 2);
        x.undo();
        due("block(4) after undo()", x.block(4), 1);
        due("block(0) after undo()", x.block(0), 0);
        x.above(2, 3);
        x.above(0, 2);
        due("bond(0, 4)", x.bond(0, 4), -4);
        dueRing(x, "bond(0, 4)", 1, 0);
        due("bond(4, 0)", x.bond(4, 0), -4);
        dueRing(x, "bond(4, 0)", 1, 0);
        due("above(1, 4)", x.above(1, 4), -4);
        dueRing(x, "above(1, 4)");
    }

    private static void ring() {
        DigHouse x = layers(7);
        x.above(5, 4);
        x.above(0, 3);
        x.above(3, 6);
        x.above(0, 2);
        x.above(2, 6);
        x.above(0, 1);
        x.above(1, 4);
        x.above(4, 6);
        x.above(2, 6);
        due("above(6, 0)", x.above(6, 0), -4);
        dueRing(x, "above(6, 0)", 1, 2);
        due("bond(5, 6)", x.bond(5, 6), -4);
        dueRing(x, "bond(5, 6)", 0, 7);
        x.above(6, 9);
        x.above(0, 6);
        dueRing(x, "refused and done acts leave it", 0, 7);
        due("undo()", x.undo(), 16);
        dueRing(x, "undo()");
        due("bond(2, 6)", x.bond(2, 6), -4);
        dueRing(x, "the first of two like rows", 4);
        for (int i = 0; i < 16; i++) {
            x.undo();
        }
        x.unit(0, 0);
        x.above(0, 0);
        x.undo();
        due("undo() that is not done", x.undo(), -2);
    }

    private static void ringStaysByUndoNotDone() {
        DigHouse x = layers(2);
        x.above(0, 1);
        x.above(1, 0);
        dueRing(x, "above(1, 0)", 0);
        x.bond(0, 0);
        dueRing(x, "left out", 0);
        x.undo();
        x.undo();
        x.undo();
        dueRing(x, "undo()");
    }

    private static void relation() {
        DigHouse x = new DigHouse();
        x.unit(2, 0);
        x.unit(1, 0);
        x.unit(0, 0);
        x.above(0, 2);
        x.cut(1, 2);
        x.fill(0, 1);
        int[][] due = {{0, 0, 2, 1}, {1, 1, 2, 0}, {2, 0, 1, 0}};
        for (int r = 0; r < 3; r++) {
            for (int what = 0; what < 4; what++) {
                due("relation(" + r + ", " + what + ")", x.relation(r, what), due[r][what]);
            }
        }
        due("relation(3, 0)", x.relation(3, 0), -1);
        due("relation(-1, 0)", x.relation(-1, 0), -1);
        due("relation(0, 4)", x.relation(0, 4), -1);
        due("relation(0, -1)", x.relation(0, -1), -1);
        due("a question leaves status()", x.status(), 0);
    }

    private static void later() {
        DigHouse x = layers(100);
        for (int u = 0; u + 1 < 100; u++) {
            x.above(u, u + 1);
        }
        due("later(0, 99)", x.later(0, 99), 1);
        due("later(99, 0)", x.later(99, 0), 0);
        due("later(63, 64)", x.later(63, 64), 1);
        due("later(64, 63)", x.later(64, 63), 0);
        due("later(50, 50)", x.later(50, 50), 0);
        due("later(0, 100)", x.later(0, 100), -1);
        due("later(-1, 0)", x.later(-1, 0), -1);
        due("row(0)", x.row(0), 99);
        due("row(99)", x.row(99), 0);
        due("row(100)", x.row(100), -1);
        due("row(-1)", x.row(-1), -1);
        due("above(99, 0)", x.above(99, 0), -4);
        due("ring(98)", x.ring(98), 98);
        due("ring(99)", x.ring(99), -5);
        due("count(12)", x.count(12), 99);
        due("orders() of 100", x.orders(), -2);
    }

    private static void laterByBonds() {
        DigHouse x = layers(6);
        x.above(5, 4);
        x.above(2, 1);
        due("later(5, 1)", x.later(5, 1), 0);
        x.bond(4, 2);
        due("later(5, 1) through a BOND", x.later(5, 1), 1);
        due("later(5, 2)", x.later(5, 2), 1);
        due("later(4, 1)", x.later(4, 1), 1);
        due("later(4, 2): one BLOCK", x.later(4, 2), 0);
        due("row(5)", x.row(5), 2);
        due("row(4)", x.row(4), 1);
        x.undo();
        due("later(5, 1) after undo()", x.later(5, 1), 0);
        due("row(5) after undo()", x.row(5), 1);
    }

    private static void chart() {
        DigHouse x = layers(5);
        x.above(0, 2);
        x.above(0, 2);
        x.above(0, 1);
        dueChart(x, "two like ones", 0, 2);
        x.above(1, 2);
        dueChart(x, "a row of two", 2, 3);
        due("relation(0, 3)", x.relation(0, 3), 1);
        due("relation(1, 3)", x.relation(1, 3), 1);
        x.above(3, 4);
        x.above(3, 2);
        dueChart(x, "more", 2, 3, 4, 5);
        x.bond(3, 0);
        dueChart(x, "a BOND", 2, 3, 4);
        x.undo();
        dueChart(x, "undo()", 2, 3, 4, 5);
        due("row(0)", x.row(0), 2);
    }

    public static void main(String[] args) {
        above();
        cutAndFill();
        bond();
        ring();
        ringStaysByUndoNotDone();
        relation();
        later();
        laterByBonds();
        chart();
        CHECK.end();
    }
}
