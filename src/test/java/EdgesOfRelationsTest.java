/** The boundary cases of promises 6 to 15 and of '2 RELATIONS', sentence by sentence. */
public final class EdgesOfRelationsTest {
    private static final int LEAST = Integer.MIN_VALUE, MOST = Integer.MAX_VALUE;

    private static void badUnits() {
        for (String call : new String[] {"above", "cut", "fill", "bond", "later"}) {
            Dig d = new Dig("6 .. 9, 12: BAD, ahead of all else");
            d.units(0, 1, 2);
            for (int bad : new int[] {-1, 3, -5, 100, LEAST, MOST}) {
                d.refuses(Dig.BAD, call, bad, 0).refuses(Dig.BAD, call, 0, bad).refuses(Dig.BAD, call, bad, bad);
            }
            d.due(0, "count", 1);
        }
        Dig d = new Dig("13, 15: BAD");
        d.layers(2);
        for (int bad : new int[] {-1, 2, -5, LEAST, MOST}) {
            d.refuses(Dig.BAD, "block", bad).refuses(Dig.BAD, "row", bad);
        }
    }

    private static void above() {
        Dig d = new Dig("6: The first lies above the second: the number of the RELATION; above (any two)");
        d.units(0, 1, 2, 3, 4);
        int r = 0;
        for (int a = 0; a < 5; a++) {
            for (int b = a + 1; b < 5; b++) {
                d.due(r, "above", a, b).due(a, "relation", r, 1).due(b, "relation", r, 2).due(0, "relation", r, 0);
                r++;
            }
        }
        d.due(10, "count", 1).due(15, "count", 4).due(14, "undo").due(9, "above", 3, 4);
    }

    private static void aboveTwice() {
        Dig d = new Dig("6: (Told twice it is two RELATIONS.)");
        d.layers(2).due(0, "above", 0, 1).due(1, "above", 0, 1).due(2, "count", 1).due(1, "count", 12).due(2, "above", 0, 1);
        d.due(4, "undo").due(2, "count", 1).due(1, "later", 0, 1).due(3, "undo").due(2, "undo").due(0, "later", 0, 1);
    }

    private static void relationsFull() {
        Dig d = new Dig("6, 7, 8: FULL: RELATIONS (200 at most), behind BAD, ahead of CAST, RING");
        d.units(0, 1, 2);
        for (int r = 0; r < 199; r++) {
            d.due(r, "above", 0, 1);
        }
        d.due(199, "cut", 1, 2);
        d.refuses(Dig.FULL, "above", 0, 1).refuses(Dig.FULL, "cut", 1, 2).refuses(Dig.FULL, "fill", 2, 1);
        d.refuses(Dig.FULL, "above", 1, 0).refuses(Dig.FULL, "above", 0, 0).refuses(Dig.FULL, "cut", 0, 1).refuses(Dig.FULL, "fill", 0, 0);
        d.refuses(Dig.BAD, "above", 0, 3).refuses(Dig.BAD, "cut", 0, 3).refuses(Dig.BAD, "fill", 3, 0);
        d.refuses(Dig.RING, "bond", 0, 1).list("ring", 0).does("unit", 0, 0).due(1, "bond", 0, 3).leavesOut("bond", 3, 0);
        d.due(0, "chart", 0).due(199, "chart", 1).due(-5, "chart", 2).due(0, "relation", 199, 3).due(1, "relation", 198, 3);
    }

    private static void cut() {
        Dig d = new Dig("7: CAST; cut (the later one is a CUT), BURIAL (a CUT, too)");
        d.units(0, 1, 2, 3, 4, 0, 1, 2, 3, 4);
        int r = 0;
        for (int c = 0; c < 5; c++) {
            for (int b = 5; b < 10; b++) {
                if (c == 1 || c == 4) {
                    d.due(r, "cut", c, b).due(1, "relation", r, 0);
                    r++;
                } else {
                    d.refuses(Dig.CAST, "cut", c, b);
                }
            }
        }
        d.due(10, "count", 1).due(15, "count", 7);
        d.refuses(Dig.RING, "cut", 1, 1).list("ring").refuses(Dig.RING, "cut", 6, 4).list("ring", 6);
        d.refuses(Dig.CAST, "cut", 0, 0).refuses(Dig.CAST, "cut", 8, 4).list("ring", 6);
    }

    private static void fill() {
        Dig d = new Dig("8: CAST: either; fill (the later one is a FILL, the earlier one a CUT)");
        d.units(0, 1, 2, 3, 4, 0, 1, 2, 3, 4);
        int r = 0;
        for (int f = 0; f < 5; f++) {
            for (int c = 5; c < 10; c++) {
                if (f == 2 && (c == 6 || c == 9)) {
                    d.due(r, "fill", f, c).due(2, "relation", r, 0);
                    r++;
                } else {
                    d.refuses(Dig.CAST, "fill", f, c);
                }
            }
        }
        d.due(2, "count", 1).due(23, "count", 7).refuses(Dig.CAST, "fill", 2, 2).due(2, "fill", 2, 6).due(3, "fill", 7, 9).does("undo").does("undo");
        d.due(2, "above", 1, 2).refuses(Dig.RING, "fill", 2, 1).list("ring", 2);
        d.due(3, "above", 6, 8).due(4, "above", 8, 7).refuses(Dig.RING, "fill", 7, 6).list("ring", 3, 4);
        d.due(1, "bond", 7, 4).refuses(Dig.RING, "fill", 7, 4).list("ring");
    }

    private static void bond() {
        Dig d = new Dig("9: Two UNITS are one: 1; 0: they were (left out)");
        d.layers(6).does("first").does("next").leavesOut("bond", 0, 0).leavesOut("bond", 5, 5);
        d.due(1, "bond", 5, 3).leavesOut("bond", 5, 3).leavesOut("bond", 3, 5).due(5, "count", 2).due(7, "count", 4);
        d.due(1, "bond", 1, 4).due(1, "bond", 4, 3).leavesOut("bond", 5, 1).leavesOut("bond", 3, 1).due(3, "count", 2);
        d.due(9, "count", 4).due(0, "status");
        d.due(8, "undo").due(1, "bond", 1, 5).leavesOut("bond", 4, 3);
        new Dig("9: left out: the SEQUENCE AT HAND stays").layers(2).does("bond", 0, 1).does("first").leavesOut("bond", 1, 0)
            .due(0, "next").due(0, "place", 0);
    }

    private static void blocks() {
        Dig d = new Dig("a BLOCK is a UNIT and all that are one with it, also through others; it is named by its least UNIT");
        d.layers(6).does("bond", 5, 4).due(4, "block", 5).due(4, "block", 4).does("bond", 3, 5).due(3, "block", 4);
        d.does("bond", 1, 2).due(1, "block", 2).does("bond", 4, 2);
        for (int u = 0; u < 6; u++) {
            d.due(u == 0 ? 0 : 1, "block", u);
        }
        d.due(2, "count", 2).does("bond", 5, 0);
        for (int u = 0; u < 6; u++) {
            d.due(0, "block", u);
        }
        d.due(1, "count", 2).due(10, "undo").due(1, "block", 5).due(0, "block", 0).does("undo").due(3, "block", 5).due(1, "block", 2);
        d.does("undo").due(2, "block", 2).does("undo").due(3, "block", 3).due(4, "block", 5).does("undo").due(5, "block", 5);
        d.due(6, "count", 2);
    }

    private static void bondRing() {
        Dig d = new Dig("9: RING; for a BOND: from the one that is LATER to the other");
        d.layers(5).does("above", 3, 0).does("above", 0, 2);
        d.refuses(Dig.RING, "bond", 0, 3).list("ring", 0).refuses(Dig.RING, "bond", 3, 0).list("ring", 0);
        d.refuses(Dig.RING, "bond", 2, 3).list("ring", 0, 1).refuses(Dig.RING, "bond", 3, 2).list("ring", 0, 1);
        d.due(1, "bond", 1, 2).refuses(Dig.RING, "bond", 1, 3).list("ring", 0, 1).refuses(Dig.RING, "bond", 1, 0).list("ring", 1);
        d.due(1, "bond", 4, 3).refuses(Dig.RING, "bond", 4, 1).list("ring", 0, 1).due(-4, "status");
    }

    private static void relationRing() {
        Dig d = new Dig("RING: for a RELATION from a to b: a row from the BLOCK of b to that of a (none, if both are one)");
        d.layers(4).refuses(Dig.RING, "above", 0, 0).list("ring").does("above", 0, 1).does("above", 1, 2);
        d.refuses(Dig.RING, "above", 2, 0).list("ring", 0, 1).refuses(Dig.RING, "above", 1, 0).list("ring", 0);
        d.refuses(Dig.RING, "above", 3, 3).list("ring");
        d.due(1, "bond", 2, 3).refuses(Dig.RING, "above", 3, 2).list("ring").refuses(Dig.RING, "above", 3, 1).list("ring", 1);
        d.due(2, "above", 0, 3).refuses(Dig.RING, "above", 3, 0).list("ring", 2);
    }

    private static void shortestRing() {
        Dig d = new Dig("Of several such rows the shortest; of these the first by their numbers, from the first one on");
        d.layers(8);
        d.does("above", 0, 1).does("above", 1, 2).does("above", 2, 7);
        d.does("above", 0, 3).does("above", 0, 4).does("above", 4, 7).does("above", 3, 7).does("above", 3, 7);
        d.refuses(Dig.RING, "above", 7, 0).list("ring", 3, 6);
        d.does("above", 1, 7).refuses(Dig.RING, "above", 7, 0).list("ring", 0, 8);
        d.does("above", 0, 7).refuses(Dig.RING, "above", 7, 0).list("ring", 9);
        d.does("undo").list("ring").refuses(Dig.RING, "bond", 7, 0).list("ring", 0, 8);
        d.does("bond", 5, 1).does("bond", 6, 4).refuses(Dig.RING, "above", 7, 5).list("ring", 8).refuses(Dig.RING, "above", 7, 6).list("ring", 5);
    }

    private static void ringOfOthers() {
        Dig d = new Dig("10: RELATION i of THE RING of the latest ACT that answered RING; NONE: none since the latest undo() that was done");
        d.list("ring").units(0, 0, 1).list("ring").does("above", 0, 1).list("ring").refuses(Dig.RING, "above", 1, 0).list("ring", 0);
        d.refuses(Dig.BAD, "above", 0, 3).refuses(Dig.CAST, "cut", 0, 1).leavesOut("bond", 0, 0).does("above", 0, 1);
        d.does("above", 2, 0).does("bond", 1, 1).list("ring", 0);
        d.refuses(Dig.RING, "above", 1, 2).list("ring", 2, 0).refuses(Dig.RING, "above", 1, 1).list("ring");
        d.refuses(Dig.RING, "above", 1, 2).does("undo").list("ring").refuses(Dig.RING, "above", 1, 0).list("ring", 0);
        d.does("span", 0, 1, 2).list("ring", 0).does("undo").list("ring");
    }

    private static void longestRing() {
        Dig d = new Dig("10: it had not so many");
        d.layers(100);
        for (int u = 0; u < 99; u++) {
            d.does("above", u, u + 1);
        }
        d.refuses(Dig.RING, "above", 99, 0);
        for (int i = 0; i < 99; i++) {
            d.due(i, "ring", i);
        }
        d.due(-5, "ring", 99).due(99, "row", 0).due(0, "row", 99).due(1, "later", 0, 99).due(0, "later", 99, 0);
        d.due(0, "later", 64, 63).due(1, "later", 63, 64).due(1, "later", 0, 63).due(1, "later", 64, 99);
    }

    private static void relation() {
        Dig d = new Dig("11: Of a RELATION: 0 .. 3. BAD");
        d.units(2, 1, 0).does("fill", 0, 1).does("cut", 1, 2).does("above", 0, 2);
        int[][] due = {{2, 0, 1, 0}, {1, 1, 2, 0}, {0, 0, 2, 1}};
        for (int r = 0; r < 3; r++) {
            for (int what = 0; what < 4; what++) {
                d.due(due[r][what], "relation", r, what);
            }
            for (int bad : new int[] {-1, 4, LEAST, MOST}) {
                d.refuses(Dig.BAD, "relation", r, bad);
            }
        }
        for (int bad : new int[] {-1, 3, -5, 200, LEAST, MOST}) {
            d.refuses(Dig.BAD, "relation", bad, 0).refuses(Dig.BAD, "relation", bad, 3);
        }
        d.does("undo").refuses(Dig.BAD, "relation", 2, 0).due(0, "relation", 1, 3);
    }

    private static void later() {
        Dig d = new Dig("12: Whether the BLOCK of the first is LATER: a RELATION, or a row of them from BLOCK to BLOCK");
        d.layers(6).does("above", 0, 1).does("above", 2, 3);
        d.due(1, "later", 0, 1).due(0, "later", 1, 0).due(0, "later", 0, 0).due(0, "later", 0, 3).due(0, "later", 0, 2);
        d.does("bond", 1, 2).due(1, "later", 0, 3).due(1, "later", 0, 2).due(1, "later", 1, 3).due(0, "later", 1, 2).due(0, "later", 3, 0);
        d.does("undo").due(0, "later", 0, 3).due(0, "later", 1, 3).due(1, "later", 2, 3);
    }

    private static void laterAndBack() {
        Dig d = new Dig("12: LATER, and not any more after undo(), for the least and the greatest UNITS");
        d.layers(100);
        int[][] pairs = {{0, 1}, {0, 63}, {0, 64}, {0, 99}, {64, 0}, {99, 0}, {64, 63}, {63, 64}, {98, 99}, {99, 98}, {99, 64}};
        for (int[] p : pairs) {
            d.due(0, "later", p[0], p[1]).does("above", p[0], p[1]).due(1, "later", p[0], p[1]).due(0, "later", p[1], p[0]).due(1, "row", p[0]);
            d.does("above", p[0], p[1]).list("chart", 0).does("undo").does("undo").due(0, "later", p[0], p[1]).due(0, "row", p[0]).list("chart");
        }
    }

    private static void needless() {
        Dig d = new Dig("NEEDLESS: an earlier RELATION (by number) between the same two BLOCKS, in the same direction");
        d.units(1, 0, 1, 0).does("cut", 0, 1).does("above", 0, 1).does("above", 2, 3);
        d.list("chart", 0, 2).due(0, "relation", 0, 3).due(1, "relation", 1, 3).due(0, "relation", 2, 3).due(2, "count", 12);
        d.does("bond", 0, 2).list("chart", 0, 2).does("bond", 1, 3).list("chart", 0).due(1, "relation", 2, 3).due(1, "count", 12);
        d.does("undo").list("chart", 0, 2).due(0, "relation", 2, 3);
        Dig e = new Dig("NEEDLESS: another row of RELATIONS, of two or more");
        e.layers(5).does("above", 0, 2).list("chart", 0).does("above", 0, 1).list("chart", 0, 1);
        e.does("above", 1, 2).list("chart", 1, 2).due(1, "relation", 0, 3).does("above", 2, 3).does("above", 0, 3).list("chart", 1, 2, 3);
        e.due(1, "relation", 4, 3).does("above", 3, 4).does("above", 0, 4).does("above", 1, 4).list("chart", 1, 2, 3, 5);
        e.does("undo").does("undo").does("undo").does("undo").does("undo").does("undo").list("chart", 0, 1).due(0, "relation", 0, 3);
    }

    private static void chart() {
        Dig d = new Dig("14: RELATION i of THE CHART; NONE");
        d.list("chart").layers(3).list("chart").does("above", 1, 2).list("chart", 0).does("undo").list("chart");
        d.does("above", 0, 2).does("above", 0, 1).does("above", 1, 2).list("chart", 1, 2);
    }

    private static void row() {
        Dig d = new Dig("15: The ROW of a BLOCK: how many RELATIONS the longest row has that leads from it");
        d.layers(6).due(0, "row", 0).does("above", 0, 5).due(1, "row", 0).due(0, "row", 5);
        d.does("above", 0, 1).does("above", 1, 2).does("above", 2, 5).due(3, "row", 0).due(2, "row", 1).due(1, "row", 2).due(0, "row", 5);
        d.does("above", 0, 1).due(3, "row", 0).does("above", 3, 4).does("bond", 5, 3).due(4, "row", 0).due(1, "row", 5).due(1, "row", 3);
        d.does("undo").due(3, "row", 0).due(0, "row", 5).due(1, "row", 3);
    }

    public static void main(String[] args) {
        badUnits();
        above();
        aboveTwice();
        relationsFull();
        cut();
        fill();
        bond();
        blocks();
        bondRing();
        relationRing();
        shortestRing();
        ringOfOthers();
        longestRing();
        relation();
        later();
        laterAndBack();
        needless();
        chart();
        row();
        Dig.end("EdgesOfRelationsTest");
    }
}
