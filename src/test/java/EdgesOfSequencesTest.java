/** The boundary cases of promises 41 to 44 and of '5 SEQUENCES', sentence by sentence. */
public final class EdgesOfSequencesTest {
    private static void orders() {
        long factorial = 1;
        for (int n = 0; n <= 16; n++) {
            factorial *= Math.max(n, 1);
            new Dig("41: How many SEQUENCES there are. (Without BLOCKS 1.)").layers(n).due(factorial, "orders").due(n, "first");
        }
        Dig d = new Dig("With more than 16 BLOCKS none is told: STATE");
        d.layers(17).refuses(Dig.STATE, "orders").refuses(Dig.STATE, "first").refuses(Dig.STATE, "next").list("place");
        d.does("bond", 16, 15).due(factorial, "orders").due(16, "first").due(1, "next").due(15, "place", 14).due(14, "place", 15);
        d.does("unit", 0, 0).refuses(Dig.STATE, "orders").refuses(Dig.STATE, "first").refuses(Dig.STATE, "next").list("place");
        d.does("undo").due(factorial, "orders").refuses(Dig.STATE, "next").due(16, "first").does("undo").refuses(Dig.STATE, "first");
        Dig e = new Dig("With more than 16 BLOCKS none is told: STATE");
        e.layers(100).refuses(Dig.STATE, "orders").refuses(Dig.STATE, "first");
        for (int u = 0; u < 84; u++) {
            e.refuses(Dig.STATE, "orders").does("bond", u, 99);
        }
        e.due(factorial, "orders").due(16, "first").due(0, "place", 0).due(84, "place", 1).due(98, "place", 15).due(-5, "place", 16);
    }

    private static void ordersOfRelations() {
        Dig d = new Dig("all rows of all BLOCKS in which each stands behind all that it is LATER than");
        d.layers(5).does("above", 0, 1).due(60, "orders").does("above", 0, 1).due(60, "orders").does("above", 1, 2).due(20, "orders");
        d.does("above", 3, 4).due(10, "orders").does("above", 0, 3).due(6, "orders").does("bond", 4, 2).due(2, "orders");
        d.does("bond", 3, 1).due(1, "orders").due(3, "first").due(2, "place", 0).due(1, "place", 1).due(0, "place", 2).due(-5, "place", 3);
        d.does("undo").due(2, "orders").does("undo").due(6, "orders");
        Dig e = new Dig("all rows of all BLOCKS in which each stands behind all that it is LATER than");
        e.layers(5).does("above", 0, 1).does("above", 2, 1).due(40, "orders").does("above", 2, 3).due(25, "orders");
        e.does("above", 4, 3).due(16, "orders").does("above", 0, 3).due(14, "orders").does("undo").due(16, "orders");
    }

    private static void allHangTogether() {
        Dig d = new Dig("41: How many SEQUENCES there are, of 16 BLOCKS in all");
        d.layers(16);
        for (int u = 1; u < 16; u++) {
            d.does("above", u, 0);
        }
        d.due(1307674368000L, "orders");
        for (int u = 1; u < 15; u++) {
            d.does("above", 15, u);
        }
        d.due(87178291200L, "orders").due(16, "first").due(0, "place", 0).due(15, "place", 15).due(1, "next").due(14, "place", 13).due(13, "place", 14);
        for (int u = 1; u < 14; u++) {
            d.does("above", u, u + 1);
        }
        d.due(1, "orders").due(16, "first").due(14, "place", 1).due(1, "place", 14).due(15, "place", 15).due(0, "next");
    }

    private static void inOrder() {
        Dig d = new Dig("they are in order by the names of their first BLOCK, then of the second, and so on");
        d.layers(4).does("above", 1, 3).due(12, "orders").due(4, "first").list("place", 0, 2, 3, 1);
        int[][] more = {{0, 3, 1, 2}, {0, 3, 2, 1}, {2, 0, 3, 1}, {2, 3, 0, 1}, {2, 3, 1, 0}, {3, 0, 1, 2}, {3, 0, 2, 1}, {3, 1, 0, 2},
            {3, 1, 2, 0}, {3, 2, 0, 1}, {3, 2, 1, 0}};
        for (int[] row : more) {
            d.due(1, "next").list("place", row);
        }
        d.due(0, "next").list("place", 3, 2, 1, 0).due(0, "next").list("place", 3, 2, 1, 0);
        d.due(4, "first").list("place", 0, 2, 3, 1).due(1, "next").list("place", 0, 3, 1, 2).due(4, "first").list("place", 0, 2, 3, 1);
    }

    private static void namesOfBlocks() {
        Dig d = new Dig("44: The name of BLOCK i of the SEQUENCE AT HAND; NONE");
        d.layers(5).list("place").does("bond", 4, 2).does("bond", 0, 3).does("above", 0, 4).due(3, "first").list("place", 1, 2, 0);
        d.due(1, "next").list("place", 2, 0, 1).due(1, "next").list("place", 2, 1, 0).due(0, "next");
    }

    private static void withoutBlocks() {
        Dig d = new Dig("41, 42: Without BLOCKS 1");
        d.refuses(Dig.STATE, "next").list("place").due(1, "orders").due(0, "first").list("place").due(0, "next").due(0, "next");
        d.refuses(Dig.STATE, "undo").due(0, "next").refuses(Dig.BAD, "unit", 5, 0).due(0, "next");
        d.does("unit", 0, 0).refuses(Dig.STATE, "next").due(1, "first").list("place", 0).due(0, "next").list("place", 0);
        d.does("undo").refuses(Dig.STATE, "next").list("place").due(1, "orders").due(0, "first").due(0, "next");
    }

    /** UNITS 0 .. 2 (a CUT, a LAYER, a FILL), a TRAY with a COIN and SHERDS; the second SEQUENCE AT HAND. */
    private static Dig atHand() {
        Dig d = new Dig("One is AT HAND from first() on, till unit(), above(), cut(), fill(), bond() do something, or undo() does");
        d.units(1, 0, 2).does("tray", 1, 6).does("coin", 0, 0, 1, 2).does("sherds", 0, 1, 0, 3).refuses(Dig.STATE, "next");
        return d.due(3, "first").due(1, "next").list("place", 0, 2, 1);
    }

    private static void till(int[] firstThen, String call, Object... args) {
        Dig d = atHand().does(call, args).refuses(Dig.STATE, "next").list("place");
        d.due(firstThen.length, "first").list("place", firstThen);
    }

    private static void staysAtHand() {
        Dig d = atHand();
        d.does("tray", 0, 2).does("bag", 0, 2, 1).does("coin", 0, 3, 1, 2).does("sample", 0, 4, 1, 2).does("note", 0, 5, 65);
        d.does("mark", 0, 0, 1).does("take", 0, 3).does("move", 0, 4, 0, 3).does("copy", 0, 0, 2, 1, 0).does("join", 0, 1, 1, 1);
        d.does("span", 0, 4, 5).does("lose", 0).list("place", 0, 2, 1);
        d.refuses(Dig.BAD, "unit", 5, 0).refuses(Dig.RING, "above", 0, 0).refuses(Dig.CAST, "cut", 1, 0).refuses(Dig.CAST, "fill", 1, 0);
        d.refuses(Dig.BAD, "bond", 0, 3).leavesOut("bond", 0, 0).due(6, "orders").due(0, "quarrel").due(1, "drawn", 0, 0).list("place", 0, 2, 1);
        d.due(1, "next").list("place", 1, 0, 2);
    }

    private static void notAtHand() {
        till(new int[] {0, 1, 2, 3}, "unit", 0, 0);
        till(new int[] {0, 1, 2}, "above", 1, 0);
        till(new int[] {1, 0, 2}, "cut", 0, 1);
        till(new int[] {0, 1, 2}, "fill", 2, 0);
        till(new int[] {0, 1}, "bond", 1, 2);
        till(new int[] {0, 1, 2}, "undo");
        Dig d = atHand();
        d.does("span", 0, 1, 2).due(1, "next").does("undo").refuses(Dig.STATE, "next").list("place").due(3, "first").list("place", 0, 1, 2);
    }

    public static void main(String[] args) {
        orders();
        ordersOfRelations();
        allHangTogether();
        inOrder();
        namesOfBlocks();
        withoutBlocks();
        notAtHand();
        staysAtHand();
        Dig.end("EdgesOfSequencesTest");
    }
}
