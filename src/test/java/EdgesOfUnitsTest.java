/** The boundary cases of promises 1 to 5 and of '1 UNITS', sentence by sentence. */
public final class EdgesOfUnitsTest {
    private static final int LEAST = Integer.MIN_VALUE, MOST = Integer.MAX_VALUE;

    private static void newObject() {
        Dig d = new Dig("1: A dig without anything");
        for (int what = 0; what <= 12; what++) {
            d.due(0, "count", what);
        }
        d.due(17, "digest").due(0, "status").due(0, "asked").due(0, "quarrel").due(1, "orders");
        for (String list : new String[] {"trace", "ring", "chart", "place", "because"}) {
            d.list(list);
        }
        d.due(0, "total", -5, -5).refuses(Dig.NOUGHT, "share", -5, 0);
        d.refuses(Dig.STATE, "undo").refuses(Dig.STATE, "next").due(0, "first").due(0, "next");
    }

    private static void namesNothing() {
        Dig d = new Dig("1: A dig without anything; BAD: a number names nothing");
        d.refuses(Dig.BAD, "asks", 0, 0).refuses(Dig.BAD, "above", 0, 0).refuses(Dig.BAD, "cut", 0, 0).refuses(Dig.BAD, "fill", 0, 0);
        d.refuses(Dig.BAD, "bond", 0, 0).refuses(Dig.BAD, "relation", 0, 0).refuses(Dig.BAD, "later", 0, 0);
        d.refuses(Dig.BAD, "block", 0).refuses(Dig.BAD, "row", 0).refuses(Dig.BAD, "tray", 0, 1).refuses(Dig.BAD, "lose", 0);
        d.refuses(Dig.BAD, "coin", 0, 0, 1, 2).refuses(Dig.BAD, "sample", 0, 0, 0, 0).refuses(Dig.BAD, "sherds", 0, 0, 0, 1);
        d.refuses(Dig.BAD, "note", 0, 0, 65).refuses(Dig.BAD, "bag", 0, 0, 1).refuses(Dig.BAD, "take", 0, 0);
        d.refuses(Dig.BAD, "move", 0, 0, 0, 0).refuses(Dig.BAD, "kind", 0, 0).refuses(Dig.BAD, "sherd", 0, 0, 0);
        d.refuses(Dig.BAD, "year", 0, 0, true).refuses(Dig.BAD, "grain", 0, 0, true).refuses(Dig.BAD, "letter", 0, 0, 0);
        d.refuses(Dig.BAD, "bagged", 0, 0).refuses(Dig.BAD, "mark", 0, 0, 0).refuses(Dig.BAD, "copy", 0, 0, 0, 0, 0);
        d.refuses(Dig.BAD, "join", 0, 0, 0, 0).refuses(Dig.BAD, "joins", 0, 0).refuses(Dig.BAD, "total", 0, 0);
        d.refuses(Dig.BAD, "share", 0, 0).refuses(Dig.BAD, "span", 0, 1, 2).refuses(Dig.BAD, "drawn", 0, 0);
    }

    private static void objectsApart() {
        Dig one = new Dig("1: A dig without anything, whatever others hold");
        one.units(4, 4).does("above", 0, 1).does("tray", 0, 3).does("coin", 0, 0, 5, 6).told(1, "asks", 0, 4);
        one.refuses(Dig.RING, "above", 1, 0);
        Dig other = new Dig("1: A dig without anything, whatever others hold");
        other.due(17, "digest").due(0, "asked").list("trace").list("ring").due(0, "count", 4).due(0, "status");
    }

    private static void unitNumbers() {
        Dig d = new Dig("2: (B) A UNIT: its number; UNITS 0, 1, ..; of a KIND 0 .. 4; a number n (0 .. 999)");
        for (int bad : new int[] {-1, 5, -5, LEAST, MOST}) {
            d.refuses(Dig.BAD, "unit", bad, 0);
        }
        for (int bad : new int[] {-1, 1000, -5, LEAST, MOST}) {
            d.refuses(Dig.BAD, "unit", 0, bad);
        }
        d.due(0, "unit", 0, 0).due(1, "unit", 4, 999).due(2, "unit", 0, 999).due(3, "unit", 4, 0).due(0, "status");
        d.told(999, "asks", 2, 0).told(0, "asks", 0, 0).due(4, "count", 0).due(4, "count", 4);
        d.due(3, "undo").due(3, "unit", 1, 1).told(-1, "asks", 3, 0);
    }

    private static void unitsFull() {
        Dig d = new Dig("2: FULL: UNITS (100 at most); BAD ahead of FULL");
        for (int u = 0; u < 99; u++) {
            d.due(u, "unit", u % 5, u);
        }
        d.due(99, "unit", 3, 999).told(1998, "asks", 99, 0);
        d.refuses(Dig.FULL, "unit", 0, 0).refuses(Dig.BAD, "unit", 5, 0).refuses(Dig.BAD, "unit", 0, 1000);
        d.due(99, "undo").refuses(Dig.BAD, "asks", 99, 0).due(99, "unit", 1, 5).refuses(Dig.FULL, "unit", 1, 5);
        d.due(99, "block", 99).refuses(Dig.BAD, "block", 100);
    }

    private static void asksBad() {
        Dig d = new Dig("3: An ASK (0 .. 4) of a UNIT. BAD; THE TRACE is empty ahead of it (not by BAD)");
        d.does("unit", 4, 7).does("unit", 3, 7).told(-142, "asks", 0, 0);
        for (int bad : new int[] {-1, 2, -5, 100, LEAST, MOST}) {
            d.refuses(Dig.BAD, "asks", bad, 0);
        }
        for (int bad : new int[] {-1, 5, -5, LEAST, MOST}) {
            d.refuses(Dig.BAD, "asks", 0, bad);
        }
        d.list("trace", 5, 4, 1).due(-142, "asked");
        d.told(1, "asks", 0, 4).list("trace", 41);
        d.told(17, "asks", 1, 2).list("trace", 22, 21);
    }

    private static void nought() {
        Dig d = new Dig("3: NOUGHT; 5 of BURIALS: 1000 by what 4 gives, cut toward 0 (NOUGHT)");
        int[] n = {0, 1, 3, 7, 600, 999};
        for (int each : n) {
            d.does("unit", 4, each);
        }
        d.told(6, "asks", 0, 1).list("trace", 13);
        d.refuses(Dig.NOUGHT, "asks", 0, 0).due(6, "asked").list("trace", 5, 4, 1);
        d.refuses(Dig.NOUGHT, "asks", 0, 0).due(2, "count", 8).due(0, "status");
        int[] due = {0, -1000, -333, -142, -1, -1};
        for (int u = 1; u < n.length; u++) {
            d.told(due[u], "asks", u, 0).list("trace", 5, 4, 1);
        }
        d.told(1, "asks", 0, 4).told(5, "asks", 0, 2).told(66, "asks", 0, 3);
        new Dig("5 is of BURIALS alone: no NOUGHT").units(0, 1, 2, 3)
            .told(0, "asks", 0, 0).told(0, "asks", 1, 0).told(5, "asks", 2, 0).told(0, "asks", 3, 0);
    }

    private static void bodies() {
        int[][][] traces = {
            {{1}, {4, 1}, {2, 1}, {3, 1}, {5, 4, 1}}, {{11}, {10}, {11}, {12, 11}, {13}}, {{21}, {20}, {21}, {22, 21}, {23}},
            {{30}, {31}, {30}, {30}, {32, 31}}, {{40}, {40}, {40}, {40}, {41}}};
        int[][] told = {{999, -999, 1004, 1998, -1}, {5, 3, 5, 1, 6}, {49, 20, 49, 59, 5}, {85, 67, 85, 85, 66}, {0, 0, 0, 0, 1}};
        for (int kind = 0; kind < 5; kind++) {
            Dig d = new Dig("Of an ask the BODY told latest for the KIND begins, of its own KIND, else of what it is, too, else of all");
            d.does("unit", kind, 999);
            for (int what = 0; what < 5; what++) {
                d.told(told[what][kind], "asks", 0, what).list("trace", traces[what][kind]);
            }
        }
    }

    private static void margins() {
        Dig d = new Dig("21 of LAYERS: the rest of n by 50. 22 of WALLS: what 21 gives, and 10");
        int[] n = {0, 49, 50, 51, 99, 100, 999};
        for (int i = 0; i < n.length; i++) {
            d.does("unit", 0, n[i]).told(n[i] % 50, "asks", 3 * i, 2);
            d.does("unit", 2, n[i]).told(n[i] % 50, "asks", 3 * i + 1, 2);
            d.does("unit", 3, n[i]).told(n[i] % 50 + 10, "asks", 3 * i + 2, 2);
        }
    }

    private static void asked() {
        Dig d = new Dig("4: What the latest call that tells by it and answered 1 told; 0 before");
        d.due(0, "asked").does("unit", 4, 9).does("unit", 1, 8).due(0, "asked");
        d.told(-111, "asks", 0, 0);
        d.due(0, "tray", 0, 4).due(1, "coin", 0, 0, 300, 310).due(1, "sample", 0, 1, 0, 0).due(1, "span", 0, 7, 90);
        d.due(1, "bond", 0, 1).due(1, "first").due(-111, "asked");
        d.due(1, "lose", 0).due(-111, "asked").due(7, "undo").due(-111, "asked");
        d.told(310, "year", 0, 0, true).told(0, "grain", 0, 1, true).told(300, "drawn", 0, 0).told(0, "because", 0);
        d.told(300, "because", 1).refuses(Dig.NONE, "because", 8).due(300, "asked");
        d.refuses(Dig.CAST, "year", 0, 1, true).refuses(Dig.CAST, "grain", 0, 0, true).refuses(Dig.NOTHING, "year", 0, 2, true);
        d.refuses(Dig.BAD, "drawn", 0, 3).refuses(Dig.BAD, "asks", 0, 5).due(300, "asked");
        for (int acts = 6; acts >= 0; acts--) {
            d.due(acts, "undo");
        }
        d.due(300, "asked").refuses(Dig.STATE, "undo").due(300, "asked");
    }

    private static void trace() {
        Dig d = new Dig("5: Number i of THE TRACE of the latest asks() that was not BAD; NONE");
        d.list("trace").does("unit", 4, 0).list("trace").told(66, "asks", 0, 3).list("trace", 32, 31);
        d.does("tray", 0, 1).does("sample", 0, 0, 0, 0).told(-5, "drawn", 0, 0).due(0, "quarrel").list("trace", 32, 31);
        d.refuses(Dig.BAD, "asks", 1, 0).list("trace", 32, 31);
        d.due(2, "undo").due(1, "undo").due(0, "undo").list("trace", 32, 31).refuses(Dig.BAD, "asks", 0, 0).list("trace", 32, 31);
    }

    private static void traceWithin() {
        Dig d = new Dig("What is asked within other calls leaves THE TRACE as it is");
        d.units(3).told(85, "asks", 0, 3).does("tray", 0, 1).list("trace", 30);
        d.refuses(Dig.FULL, "tray", 0, 1).list("trace", 30);
        d.does("coin", 0, 0, 5, 6).told(5, "drawn", 0, 0).list("trace", 30);
    }

    public static void main(String[] args) {
        newObject();
        namesNothing();
        objectsApart();
        unitNumbers();
        unitsFull();
        asksBad();
        nought();
        bodies();
        margins();
        asked();
        trace();
        traceWithin();
        Dig.end("EdgesOfUnitsTest");
    }
}
