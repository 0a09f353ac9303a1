/** The boundary cases of promises 26 to 36, sentence by sentence. */
public final class EdgesOfFindsTest {
    private static final int LEAST = Integer.MIN_VALUE, MOST = Integer.MAX_VALUE;
    private static final int[] NO_TRAY = {-1, 4, -5, LEAST, MOST};
    private static final int[] NO_SLOT = {-1, 6, -5, 40, LEAST, MOST};

    /**
     * TRAY 0 of a BURIAL and TRAY 1 of a LAYER with 6 SLOTS each, TRAY 2 of the LAYER, LOST. SLOTS 0 .. 4 of TRAY 0 hold
     * FINDS of KINDS 0 .. 4; the BAG is TRAY 3, with 2 SLOTS; SLOT 5 is EMPTY.
     */
    private static Dig stocked(String sentence) {
        Dig d = new Dig(sentence);
        d.units(4, 0).does("tray", 0, 6).does("tray", 1, 6).does("tray", 1, 6).does("lose", 2);
        d.does("sherds", 0, 0, 3, 5).does("coin", 0, 1, 100, 120).does("sample", 0, 2, 11, 12).does("note", 0, 3, 0x6162);
        return d.does("bag", 0, 4, 2);
    }

    private static Object[] with(int tray, int slot, Object[] more) {
        Object[] args = new Object[more.length + 2];
        args[0] = tray;
        args[1] = slot;
        System.arraycopy(more, 0, args, 2, more.length);
        return args;
    }

    /** BAD: TRAY; NOTHING, BEYOND, CAST, in this order. */
    private static void looksInto(int promise, int kind, String call, Object... more) {
        Dig d = stocked(promise + ": BAD: TRAY; NOTHING, BEYOND, CAST");
        for (int bad : NO_TRAY) {
            d.refuses(Dig.BAD, call, with(bad, 0, more)).refuses(Dig.BAD, call, with(bad, 9, more));
        }
        for (int bad : NO_SLOT) {
            d.refuses(Dig.BEYOND, call, with(0, bad, more)).refuses(Dig.NOTHING, call, with(2, bad, more));
        }
        d.refuses(Dig.NOTHING, call, with(2, 0, more)).refuses(Dig.NOTHING, call, with(0, 5, more));
        for (int slot = 0; slot < 5; slot++) {
            if (slot != kind) {
                d.refuses(Dig.CAST, call, with(0, slot, more));
            }
        }
        d.does(call, with(0, kind, more)).due(0, "status");
    }

    private static void questions() {
        looksInto(26, 0, "sherd", 0);
        looksInto(27, 1, "year", false);
        looksInto(27, 1, "year", true);
        looksInto(28, 2, "grain", false);
        looksInto(28, 2, "grain", true);
        looksInto(29, 3, "letter", 0);
        looksInto(30, 4, "bagged");
    }

    private static void sherd() {
        Dig d = stocked("26: How many SHERDS of a TYPE a SLOT holds. CAST, BEYOND (TYPE)");
        d.due(5, "sherd", 0, 0, 3).due(0, "sherd", 0, 0, 0).due(0, "sherd", 0, 0, 7);
        for (int bad : new int[] {-1, 8, -5, LEAST, MOST}) {
            d.refuses(Dig.BEYOND, "sherd", 0, 0, bad).refuses(Dig.CAST, "sherd", 0, 1, bad).refuses(Dig.NOTHING, "sherd", 0, 5, bad);
            d.refuses(Dig.NOTHING, "sherd", 2, 0, bad).refuses(Dig.BEYOND, "sherd", 0, 6, bad).refuses(Dig.BAD, "sherd", 4, 0, bad);
        }
    }

    private static void yearAndGrain() {
        Dig d = stocked("27, 28: told by asked(): 1");
        d.told(100, "year", 0, 1, false).told(120, "year", 0, 1, true).told(11, "grain", 0, 2, false).told(12, "grain", 0, 2, true);
        d.refuses(Dig.CAST, "year", 0, 2, false).refuses(Dig.CAST, "grain", 0, 1, false).due(12, "asked");
    }

    private static void letter() {
        Dig d = stocked("29: Letter k of a NOTE. CAST, BEYOND (k)");
        d.due(0x61, "letter", 0, 3, 0).due(0x62, "letter", 0, 3, 1);
        for (int bad : new int[] {-1, 2, 40, -5, LEAST, MOST}) {
            d.refuses(Dig.BEYOND, "letter", 0, 3, bad).refuses(Dig.CAST, "letter", 0, 4, bad).refuses(Dig.NOTHING, "letter", 0, 5, bad);
            d.refuses(Dig.NOTHING, "letter", 2, 3, bad).refuses(Dig.BEYOND, "letter", 0, 6, bad).refuses(Dig.BAD, "letter", 4, 3, bad);
        }
    }

    private static void bagged() {
        Dig d = stocked("30: Of a BAG: the number of it as a TRAY");
        d.due(3, "bagged", 0, 4).due(4, "bag", 3, 1, 0).due(4, "bagged", 3, 1).does("lose", 4).due(4, "bagged", 3, 1);
        d.does("lose", 3).refuses(Dig.NOTHING, "bagged", 3, 1).due(3, "bagged", 0, 4);
    }

    private static void mark() {
        Dig d = stocked("31: becomes m: what it was (also if it is so already). BAD: TRAY, m; NOTHING, BEYOND; CAST");
        for (int bad : NO_TRAY) {
            d.refuses(Dig.BAD, "mark", bad, 1, 0);
        }
        for (int bad : new int[] {-1, 3, -5, LEAST, MOST}) {
            d.refuses(Dig.BAD, "mark", 0, 1, bad).refuses(Dig.BAD, "mark", 2, 1, bad).refuses(Dig.BAD, "mark", 0, 6, bad);
            d.refuses(Dig.BAD, "mark", 0, 0, bad).refuses(Dig.BAD, "mark", 0, 5, bad);
        }
        for (int bad : NO_SLOT) {
            d.refuses(Dig.BEYOND, "mark", 0, bad, 1).refuses(Dig.NOTHING, "mark", 2, bad, 1);
        }
        d.refuses(Dig.NOTHING, "mark", 0, 5, 1).refuses(Dig.NOTHING, "mark", 2, 0, 1);
        for (int slot : new int[] {0, 3, 4}) {
            d.refuses(Dig.CAST, "mark", 0, slot, 1).refuses(Dig.CAST, "mark", 0, slot, 0);
        }
        for (int slot = 1; slot <= 2; slot++) {
            d.due(0, "mark", 0, slot, 0).due(0, "mark", 0, slot, 2).due(2, "mark", 0, slot, 2).due(2, "mark", 0, slot, 1).due(1, "mark", 0, slot, 0);
        }
        d.due(21, "count", 4).does("undo").due(1, "mark", 0, 2, 1).told(11, "grain", 0, 2, false).told(100, "year", 0, 1, false);
    }

    private static void copyBad() {
        Dig d = stocked("32: BAD: TRAYS, n is not 0 .. 40");
        for (int bad : NO_TRAY) {
            d.refuses(Dig.BAD, "copy", bad, 0, 1, 1, 0).refuses(Dig.BAD, "copy", 0, 0, 1, bad, 0).refuses(Dig.BAD, "copy", bad, 0, 0, bad, 0);
        }
        for (int bad : new int[] {-1, 41, -5, LEAST, MOST}) {
            d.refuses(Dig.BAD, "copy", 0, 0, bad, 1, 0).refuses(Dig.BAD, "copy", 2, 0, bad, 2, 0).refuses(Dig.BAD, "copy", 0, 9, bad, 1, 9);
        }
        d.leavesOut("copy", 0, 0, 0, 1, 0).leavesOut("copy", 2, 0, 0, 2, 0).leavesOut("copy", 0, 9, 0, 1, -9).leavesOut("copy", 0, 4, 0, 0, 4);
        d.due(11, "count", 4).due(0, "count", 5).due(0, "count", 6);
    }

    /** copy() that ends at once: left out, with the FINDING counted and told by status(). */
    private static void ends(Dig d, int why, Object... args) {
        int acts = (int) d.answer("count", 4);
        int came = why == Dig.STATE ? 0 : (int) d.answer("count", -6 - why);
        long digest = d.answer("digest");
        d.due(0, "copy", args).due(why, "status").due(acts, "count", 4).due(digest, "digest");
        if (why != Dig.STATE) {
            d.due(came + 1, "count", -6 - why);
        }
    }

    private static void copyEnds() {
        Dig d = stocked("32: It ends earlier, and status() tells why: NOTHING; BEYOND; STATE; left out if it is 0");
        ends(d, Dig.NOTHING, 2, 0, 1, 1, 0);
        ends(d, Dig.NOTHING, 1, 0, 1, 2, 0);
        ends(d, Dig.NOTHING, 2, 0, 1, 2, 0);
        ends(d, Dig.NOTHING, 2, 0, 1, 1, 6);
        ends(d, Dig.NOTHING, 0, 4, 1, 2, 0);
        ends(d, Dig.NOTHING, 0, 6, 1, 2, 0);
        ends(d, Dig.NOTHING, 0, -1, 1, 2, 6);
        ends(d, Dig.STATE, 0, 4, 1, 1, 0);
        ends(d, Dig.STATE, 0, 5, 1, 0, 4);
        ends(d, Dig.STATE, 0, 4, 1, 0, 4);
        for (int bad : NO_SLOT) {
            ends(d, Dig.BEYOND, 0, bad, 40, 1, 0);
            ends(d, Dig.BEYOND, 0, 0, 40, 1, bad);
            ends(d, Dig.BEYOND, 0, bad, 1, 0, 4);
            ends(d, Dig.BEYOND, 0, 4, 1, 1, bad);
        }
        d.due(0, "lose", 2).due(0, "status");
    }

    private static void copyEndsLater() {
        Dig d = stocked("32: how many; It ends earlier, and status() tells why");
        d.due(4, "copy", 0, 0, 40, 1, 0).due(Dig.STATE, "status").due(12, "count", 4).due(-5, "kind", 1, 4);
        d.due(3, "copy", 1, 0, 4, 1, 3).due(Dig.BEYOND, "status").due(1, "count", 6).due(0, "kind", 1, 3).due(1, "kind", 1, 4);
        d.due(2, "copy", 1, 4, 3, 3, 0).due(Dig.BEYOND, "status").due(2, "count", 6);
        d.due(2, "copy", 1, 4, 2, 3, 0).due(0, "status").due(2, "count", 6).due(15, "count", 4);
        d.due(1, "copy", 0, 5, 2, 1, 0).due(Dig.BEYOND, "status").due(-5, "kind", 1, 0);
        d.due(2, "copy", 1, 1, 6, 0, 2).due(Dig.STATE, "status").due(1, "kind", 0, 2).due(2, "kind", 0, 3).due(3, "bagged", 0, 4);
        d.due(0, "count", 5).due(3, "count", 6);
        for (int i = 0; i < 6; i++) {
            d.does("undo");
        }
        d.due(-5, "kind", 1, 0).due(2, "kind", 0, 2).due(3, "kind", 0, 3).due(3, "count", 6).due(Dig.STATE, "status");
    }

    private static void copyWhat() {
        Dig d = stocked("32: SLOT other + k becomes what SLOT slot + k holds, as a copy with its MARK (EMPTY, if that is)");
        d.does("mark", 0, 1, 2).does("mark", 0, 2, 1).due(4, "copy", 0, 0, 4, 1, 2);
        d.due(5, "sherd", 1, 2, 3).told(120, "year", 1, 3, true).told(11, "grain", 1, 4, false).due(0x62, "letter", 1, 5, 1);
        d.due(2, "mark", 1, 3, 0).due(1, "mark", 1, 4, 0).due(6, "sherds", 1, 2, 3, 1).due(3, "note", 1, 5, 65);
        d.due(2, "mark", 0, 1, 2).due(1, "mark", 0, 2, 1).due(5, "sherd", 0, 0, 3).refuses(Dig.BEYOND, "letter", 0, 3, 2);
        d.due(9, "sherds", 0, 0, 3, 4).due(6, "sherd", 1, 2, 3);
        d.due(1, "copy", 0, 5, 1, 1, 2).due(-5, "kind", 1, 2).due(1, "copy", 0, 5, 1, 1, 2).due(-5, "kind", 1, 2).due(23, "count", 4);
        d.due(22, "undo").due(21, "undo").due(6, "sherd", 1, 2, 3);
    }

    private static void copyBehind() {
        Dig d = stocked("32: One behind the other, k from 0 to n - 1");
        d.due(5, "copy", 1, 0, 5, 1, 1).does("coin", 1, 0, 7, 8).due(5, "copy", 1, 0, 5, 1, 1);
        for (int slot = 0; slot < 6; slot++) {
            d.told(7, "year", 1, slot, false);
        }
        d.does("undo");
        for (int slot = 1; slot < 6; slot++) {
            d.due(-5, "kind", 1, slot);
        }
        d.does("note", 1, 5, 65).due(5, "copy", 1, 1, 5, 1, 0).due(-5, "kind", 1, 0).due(3, "kind", 1, 4).due(3, "kind", 1, 5);
        d.due(6, "copy", 1, 0, 6, 1, 0).due(0, "status").due(3, "kind", 1, 4);
        Dig e = new Dig("32: n is 0 .. 40");
        e.layers(1).does("tray", 0, 40).does("tray", 0, 40).does("coin", 0, 39, 1, 2).due(40, "copy", 0, 0, 40, 1, 0).due(0, "status");
        e.due(1, "kind", 1, 39).due(1, "copy", 1, 39, 40, 0, 0).due(Dig.BEYOND, "status").due(1, "kind", 0, 0);
    }

    private static void joinRefused() {
        Dig d = stocked("33: BAD; NOTHING, BEYOND, CAST (the first, then the other one)");
        for (int bad : NO_TRAY) {
            d.refuses(Dig.BAD, "join", bad, 0, 0, 0).refuses(Dig.BAD, "join", 0, 0, bad, 0).refuses(Dig.BAD, "join", 0, 9, bad, 0);
        }
        for (int bad : NO_SLOT) {
            d.refuses(Dig.BEYOND, "join", 0, bad, 0, 0).refuses(Dig.BEYOND, "join", 0, 0, 0, bad).refuses(Dig.BEYOND, "join", 0, bad, 2, 0);
            d.refuses(Dig.NOTHING, "join", 2, bad, 0, 1).refuses(Dig.NOTHING, "join", 0, 0, 2, bad).refuses(Dig.CAST, "join", 0, 1, 0, bad);
        }
        d.refuses(Dig.NOTHING, "join", 0, 5, 0, 1).refuses(Dig.NOTHING, "join", 0, 0, 0, 5).refuses(Dig.CAST, "join", 0, 1, 0, 5);
        d.refuses(Dig.NOTHING, "join", 0, 5, 0, 6).refuses(Dig.CAST, "join", 0, 2, 2, 0);
        for (int slot = 1; slot < 5; slot++) {
            d.refuses(Dig.CAST, "join", 0, slot, 0, 0).refuses(Dig.CAST, "join", 0, 0, 0, slot);
        }
        d.due(1, "join", 0, 0, 0, 0).due(0, "status");
    }

    private static void joinsFull() {
        Dig d = stocked("33: FULL: 80 (behind these)");
        d.does("sherds", 1, 0, 0, 0);
        for (int n = 1; n <= 80; n++) {
            d.due(n, "join", 0, 0, 1, 0);
        }
        d.refuses(Dig.FULL, "join", 0, 0, 1, 0).refuses(Dig.FULL, "join", 0, 0, 0, 0);
        d.refuses(Dig.NOTHING, "join", 2, 0, 0, 0).refuses(Dig.BEYOND, "join", 0, 6, 0, 0).refuses(Dig.CAST, "join", 0, 1, 0, 0);
        d.refuses(Dig.NOTHING, "join", 0, 0, 2, 0).refuses(Dig.BEYOND, "join", 0, 0, 0, 6).refuses(Dig.CAST, "join", 0, 0, 0, 1);
        d.refuses(Dig.BAD, "join", 0, 0, 4, 0).due(80, "count", 11).due(80, "joins", 0, 1).due(91, "undo").due(80, "join", 1, 0, 1, 0);
        d.due(79, "joins", 0, 1).due(1, "joins", 1, 1).refuses(Dig.FULL, "join", 0, 0, 1, 0);
    }

    private static void joins() {
        Dig d = stocked("34: whose one part was IN the one UNIT and the other IN the other one (perhaps the same), as they were told. BAD");
        d.does("sherds", 1, 0, 0, 0).does("sherds", 3, 0, 0, 1);
        for (int bad : new int[] {-1, 2, -5, LEAST, MOST}) {
            d.refuses(Dig.BAD, "joins", bad, 0).refuses(Dig.BAD, "joins", 0, bad);
        }
        d.due(0, "joins", 0, 0).due(1, "join", 0, 0, 0, 0).due(1, "joins", 0, 0).due(2, "join", 0, 0, 3, 0).due(2, "joins", 0, 0);
        d.due(3, "join", 1, 0, 3, 0).due(1, "joins", 0, 1).due(1, "joins", 1, 0).due(0, "joins", 1, 1).due(4, "join", 1, 0, 1, 0).due(1, "joins", 1, 1);
        d.does("take", 0, 0).does("take", 0, 4).does("take", 1, 0).does("lose", 1).due(2, "joins", 0, 0).due(1, "joins", 1, 0);
        d.due(5, "join", 3, 0, 3, 0).due(2, "joins", 0, 0).due(1, "joins", 1, 1).due(5, "count", 11);
        d.does("undo").due(4, "count", 11).does("undo").does("undo").does("undo").does("undo").does("undo").due(0, "joins", 1, 1);
        d.due(1, "joins", 0, 1).does("bond", 0, 1).due(1, "joins", 0, 1).due(2, "joins", 0, 0).due(0, "joins", 1, 1);
    }

    private static void totalOf() {
        Dig d = stocked("35: How many SHERDS of a TYPE (NONE: of all) are IN A UNIT (NONE: in any UNIT). BAD");
        d.does("sherds", 0, 0, 0, 1).does("sherds", 0, 0, 7, 2).does("sherds", 1, 5, 7, 4).does("sherds", 3, 1, 7, 8);
        d.due(1, "total", 0, 0).due(10, "total", 0, 7).due(16, "total", 0, -5).due(4, "total", 1, -5).due(14, "total", -5, 7).due(20, "total", -5, -5);
        for (int bad : new int[] {-1, 2, -4, -6, LEAST, MOST}) {
            d.refuses(Dig.BAD, "total", bad, 0).refuses(Dig.BAD, "total", bad, -5).refuses(Dig.BAD, "share", bad, 0);
        }
        for (int bad : new int[] {-1, 8, -4, -6, LEAST, MOST}) {
            d.refuses(Dig.BAD, "total", 0, bad).refuses(Dig.BAD, "total", -5, bad).refuses(Dig.BAD, "share", 0, bad);
        }
        d.does("bond", 0, 1).due(4, "total", 1, -5).does("lose", 3).due(8, "total", 0, -5).does("take", 0, 0).due(4, "total", -5, -5);
    }

    private static void depth() {
        Dig d = new Dig("A FIND is IN A UNIT if it lies in a SLOT of a TRAY of it, or of a BAG that does, at whatever depth");
        d.layers(2).does("tray", 1, 1);
        for (int t = 0; t < 58; t++) {
            d.due(t + 1, "bag", t, 0, t == 57 ? 2 : 1);
        }
        d.does("sherds", 58, 0, 5, 9).does("coin", 58, 1, 50, 60).due(9, "total", 1, 5).due(9, "total", -5, 5).due(0, "total", 0, 5);
        d.told(50, "drawn", 1, 0).due(1, "join", 58, 0, 58, 0).due(1, "joins", 1, 1).does("lose", 30).due(0, "total", -5, 5);
        d.told(-10000, "drawn", 1, 0).does("undo").due(9, "total", 1, 5).does("take", 0, 0).due(0, "total", -5, 5).due(2, "join", 58, 0, 58, 0);
        d.due(1, "joins", 1, 1);
    }

    private static void share() {
        Dig d = stocked("36: A thousand times those of a TYPE (0 .. 7), by those of all, IN A UNIT (NONE: in any UNIT), cut. BAD; NOUGHT");
        d.due(1000, "share", 0, 3).due(0, "share", 0, 0).does("sherds", 0, 0, 7, 10).due(333, "share", 0, 3).due(666, "share", 0, 7);
        d.refuses(Dig.NOUGHT, "share", 1, 0).does("sherds", 1, 0, 0, 0).refuses(Dig.NOUGHT, "share", 1, 0).refuses(Dig.NOUGHT, "share", 1, 7);
        d.refuses(Dig.BAD, "share", 1, -5).refuses(Dig.BAD, "share", 1, -1).refuses(Dig.BAD, "share", 1, 8).refuses(Dig.BAD, "share", 2, 0);
        d.does("sherds", 1, 0, 0, 1).due(1000, "share", 1, 0).due(62, "share", -5, 0).due(312, "share", -5, 3).due(625, "share", -5, 7);
        d.does("lose", 0).refuses(Dig.NOUGHT, "share", 0, 3).due(1000, "share", -5, 0).does("lose", 1).refuses(Dig.NOUGHT, "share", -5, 0);
        d.due(5, "count", 8).due(0, "status");
    }

    private static void shareCut() {
        Dig d = new Dig("36: A thousand times those of a TYPE, by those of all, cut");
        d.units(0).does("tray", 0, 11).does("sherds", 0, 0, 0, 1);
        for (int s = 0; s < 10; s++) {
            d.does("sherds", 0, s, 1, 99 + (s == 0 ? 0 : 1));
        }
        d.due(1, "share", 0, 0).due(999, "share", 0, 1).does("sherds", 0, 10, 2, 1).due(0, "share", 0, 0).due(0, "share", -5, 2);
        d.does("sherds", 0, 0, 0, 1).due(1, "share", 0, 0).due(0, "share", 0, 2).due(997, "share", 0, 1);
    }

    private static void mostSherds() {
        Dig d = new Dig("35, 36: as many SHERDS as there can be");
        for (int u = 0; u < 10; u++) {
            d.does("unit", 4, 0);
            for (int i = 0; i < 6; i++) {
                d.does("tray", u, 40);
            }
        }
        for (int type = 0; type < 8; type++) {
            d.does("sherds", 0, 0, type, 100);
        }
        d.does("copy", 0, 0, 39, 0, 1);
        for (int t = 1; t < 60; t++) {
            d.due(40, "copy", 0, 0, 40, t, 0);
        }
        d.due(1920000, "total", -5, -5).due(240000, "total", -5, 7).due(125, "share", -5, 7).due(192000, "total", 9, -5);
        d.due(100, "sherd", 59, 39, 7).refuses(Dig.STATE, "sherds", 59, 39, 7, 1);
    }

    public static void main(String[] args) {
        questions();
        sherd();
        yearAndGrain();
        letter();
        bagged();
        mark();
        copyBad();
        copyEnds();
        copyEndsLater();
        copyWhat();
        copyBehind();
        joinRefused();
        joinsFull();
        joins();
        totalOf();
        depth();
        share();
        shareCut();
        mostSherds();
        Dig.end("EdgesOfFindsTest");
    }
}
