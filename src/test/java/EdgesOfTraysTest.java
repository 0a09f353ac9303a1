/** The boundary cases of promises 16 to 25 and of '3 TRAYS', sentence by sentence. */
public final class EdgesOfTraysTest {
    private static final int LEAST = Integer.MIN_VALUE, MOST = Integer.MAX_VALUE;
    private static final int[] NO_SLOT = {-1, 6, -5, 40, LEAST, MOST};

    /** TRAY 0 of a BURIAL and TRAY 1 of a LAYER with 6 SLOTS each, TRAY 2 of the LAYER, LOST. */
    private static Dig dig(String sentence) {
        Dig d = new Dig(sentence);
        return d.units(4, 0).does("tray", 0, 6).does("tray", 1, 6).does("tray", 1, 6).does("lose", 2);
    }

    /** SLOTS 0 .. 4 of TRAY 0 hold FINDS of KINDS 0 .. 4; the BAG is TRAY 3, with 2 SLOTS; SLOT 5 is EMPTY. */
    private static Dig stocked(String sentence) {
        Dig d = dig(sentence);
        d.does("sherds", 0, 0, 0, 5).does("coin", 0, 1, 100, 120).does("sample", 0, 2, 0, 0).does("note", 0, 3, 65);
        return d.does("bag", 0, 4, 2);
    }

    private static void trayNumbers() {
        Dig d = new Dig("16: A TRAY for a UNIT, with n SLOTS (0 to 40): its number. BAD: also n above 40; SIZE");
        d.units(4, 0);
        for (int bad : new int[] {41, 100, MOST}) {
            d.refuses(Dig.BAD, "tray", 0, bad);
        }
        for (int bad : new int[] {-1, -5, LEAST}) {
            d.refuses(Dig.SIZE, "tray", 0, bad);
        }
        for (int bad : new int[] {-1, 2, -5, LEAST, MOST}) {
            d.refuses(Dig.BAD, "tray", bad, 1).refuses(Dig.BAD, "tray", bad, -1);
        }
        d.due(0, "tray", 0, 0).due(1, "tray", 1, 40).due(2, "tray", 0, 1).due(3, "count", 3);
        d.refuses(Dig.BEYOND, "kind", 0, 0).due(-5, "kind", 1, 39).refuses(Dig.BEYOND, "kind", 1, 40).due(-5, "kind", 2, 0);
        d.does("undo").refuses(Dig.BAD, "kind", 2, 0).due(2, "tray", 1, 3);
    }

    private static void traysOfUnit() {
        int[] most = {5, 3, 5, 1, 6};
        for (int kind = 0; kind < 5; kind++) {
            Dig d = new Dig("16: FULL: the UNIT has as many (LOST ones, too; BAGS aside) as its TRAYS ask tells, behind BAD, ahead of SIZE");
            d.units(0, kind).due(0, "tray", 0, 9);
            for (int i = 1; i <= most[kind]; i++) {
                d.due(2 * i - 1, "tray", 1, 3).due(2 * i, "bag", 2 * i - 1, 0, 1);
            }
            d.does("move", 1, 0, 0, 0).refuses(Dig.FULL, "tray", 1, 3).refuses(Dig.FULL, "tray", 1, -1).refuses(Dig.BAD, "tray", 1, 41);
            d.does("lose", 1).refuses(Dig.FULL, "tray", 1, 3).does("undo");
            int last = 2 * most[kind] + 1;
            d.due(last, "tray", 0, 3).does("undo").does("undo").does("undo").does("undo");
            d.due(last - 2, "tray", 1, 0).refuses(Dig.FULL, "tray", 1, 0);
        }
    }

    private static void traysFull() {
        Dig d = new Dig("16, 22: FULL: 60 TRAYS (BAGS with them), behind BAD, ahead of SIZE and all FINDINGS");
        d.units(0, 0).does("tray", 0, 40).does("tray", 0, 40);
        for (int t = 2; t < 60; t++) {
            d.due(t, "bag", t % 2, t / 2, t == 59 ? 2 : 0);
        }
        d.refuses(Dig.FULL, "tray", 1, 1).refuses(Dig.FULL, "tray", 1, -1).refuses(Dig.BAD, "tray", 1, 41).refuses(Dig.BAD, "tray", 2, 1);
        d.refuses(Dig.FULL, "bag", 0, 39, 1).refuses(Dig.FULL, "bag", 0, 39, -1).refuses(Dig.FULL, "bag", 0, 40, 1);
        d.refuses(Dig.FULL, "bag", 0, 1, 1).refuses(Dig.BAD, "bag", 0, 39, 41).refuses(Dig.BAD, "bag", 60, 0, 1);
        d.due(60, "count", 3).due(-5, "kind", 59, 1).refuses(Dig.BEYOND, "kind", 59, 2).due(1, "lose", 59).refuses(Dig.FULL, "tray", 1, 1);
        d.due(4, "take", 0, 1).refuses(Dig.FULL, "bag", 0, 1, 1).refuses(Dig.NOTHING, "kind", 59, 0);
        d.does("undo").does("undo").does("undo").due(59, "tray", 1, 1).refuses(Dig.FULL, "bag", 0, 39, 1);
        d.does("undo").due(59, "bag", 1, 29, 1).refuses(Dig.FULL, "tray", 1, 1);
    }

    private static void lastSlot() {
        Dig d = new Dig("BEYOND: a SLOT that is not there, behind the last SLOT of the last TRAY");
        d.layers(1).does("tray", 0, 40);
        for (int t = 1; t < 60; t++) {
            d.due(t, "bag", t - 1, 39, 40);
        }
        d.refuses(Dig.BEYOND, "take", 59, 40).refuses(Dig.BEYOND, "move", 59, 40, 0, 0).refuses(Dig.BEYOND, "mark", 59, 40, 1);
        d.refuses(Dig.BEYOND, "kind", 59, 40).refuses(Dig.BEYOND, "sherd", 59, 40, 0).refuses(Dig.BEYOND, "year", 59, 40, true);
        d.refuses(Dig.BEYOND, "grain", 59, 40, true).refuses(Dig.BEYOND, "letter", 59, 40, 0).refuses(Dig.BEYOND, "bagged", 59, 40);
        d.refuses(Dig.BEYOND, "coin", 59, 40, 1, 2).refuses(Dig.BEYOND, "sample", 59, 40, 1, 2).refuses(Dig.BEYOND, "sherds", 59, 40, 0, 1);
        d.refuses(Dig.BEYOND, "note", 59, 40, 65).refuses(Dig.BEYOND, "join", 59, 40, 59, 40).due(0, "copy", 59, 40, 1, 0, 0).due(Dig.BEYOND, "status");
        d.due(7, "sherds", 59, 39, 7, 7).due(7, "total", 0, 7).due(1, "join", 59, 39, 59, 39).due(1, "joins", 0, 0);
        d.refuses(Dig.STORE, "move", 0, 39, 59, 0).refuses(Dig.STORE, "move", 58, 39, 59, 39).due(0, "move", 59, 39, 59, 0);
        d.due(1, "coin", 59, 39, 5, 6).told(5, "drawn", 0, 0).due(1, "copy", 59, 39, 2, 59, 1).due(Dig.BEYOND, "status").due(1, "take", 59, 39);
    }

    private static void lose() {
        Dig d = stocked("17: A TRAY, or BAG, is LOST: 1; 0: it was (left out). BAD");
        for (int bad : new int[] {-1, 4, -5, LEAST, MOST}) {
            d.refuses(Dig.BAD, "lose", bad);
        }
        d.leavesOut("lose", 2).due(11, "count", 4).due(1, "lose", 3).leavesOut("lose", 3).due(1, "lose", 0).leavesOut("lose", 0);
        d.due(13, "count", 4).does("undo").due(1, "lose", 0).does("undo").does("undo").due(-5, "kind", 3, 0).due(1, "lose", 3);
    }

    private static void lost() {
        Dig d = stocked("A TRAY (or BAG) that is LOST has no SLOTS any more, nor has a BAG that lay in it a place");
        d.does("sherds", 3, 0, 1, 7).does("bag", 3, 1, 1).does("sherds", 4, 0, 2, 9).due(21, "total", 0, -5).does("lose", 0);
        d.due(0, "total", 0, -5).due(0, "total", -5, -5).due(7, "sherd", 3, 0, 1).due(9, "sherd", 4, 0, 2);
        for (int slot : new int[] {0, 5, 6, -1}) {
            d.refuses(Dig.NOTHING, "kind", 0, slot);
        }
        d.due(1, "join", 3, 0, 4, 0).due(0, "joins", 0, 0).due(4, "move", 3, 1, 1, 0).due(9, "total", 1, -5).due(0, "total", 0, -5);
        d.does("undo").does("undo").does("undo").due(21, "total", 0, -5).due(4, "kind", 0, 4).due(3, "bagged", 0, 4);
    }

    private static void lostBag() {
        Dig d = stocked("a BAG that is LOST lies in its SLOT still");
        d.does("bag", 3, 0, 2).does("sherds", 4, 1, 1, 7).does("lose", 3).due(4, "kind", 0, 4).due(3, "bagged", 0, 4);
        d.refuses(Dig.NOTHING, "kind", 3, 0).due(0, "total", 0, 1).refuses(Dig.STATE, "coin", 0, 4, 1, 2);
        d.due(4, "move", 0, 4, 1, 3).due(3, "bagged", 1, 3).due(4, "move", 1, 3, 4, 0).due(3, "bagged", 4, 0).due(4, "take", 4, 0);
        d.refuses(Dig.NOTHING, "kind", 3, 0).leavesOut("lose", 3);
    }

    private static void slotsOfNew() {
        Object[][] calls = {{"coin", 1, 2}, {"sample", 1, 2}, {"bag", 2}};
        for (Object[] c : calls) {
            Dig d = stocked("18, 19, 22: comes into a SLOT. BAD: TRAY; NOTHING, BEYOND; STATE: it is not EMPTY");
            for (int bad : new int[] {-1, 4, -5, LEAST, MOST}) {
                d.refuses(Dig.BAD, (String) c[0], with(c, bad, 5));
            }
            for (int bad : NO_SLOT) {
                d.refuses(Dig.BEYOND, (String) c[0], with(c, 0, bad)).refuses(Dig.NOTHING, (String) c[0], with(c, 2, bad));
            }
            d.refuses(Dig.NOTHING, (String) c[0], with(c, 2, 0));
            for (int slot = 0; slot < 5; slot++) {
                d.refuses(Dig.STATE, (String) c[0], with(c, 0, slot));
            }
            d.does((String) c[0], with(c, 0, 5)).refuses(Dig.STATE, (String) c[0], with(c, 0, 5)).due(Dig.STATE, "status");
            d.does("undo").due(-5, "kind", 0, 5).does((String) c[0], with(c, 0, 5));
        }
    }

    private static Object[] with(Object[] call, int tray, int slot) {
        Object[] args = new Object[call.length + 1];
        args[0] = tray;
        args[1] = slot;
        System.arraycopy(call, 1, args, 2, call.length - 1);
        return args;
    }

    private static void coinYears() {
        Dig d = dig("18: BAD: YEARS (-10000 .. 2100), the second not below the first; ahead of NOTHING, BEYOND, STATE");
        int[][] bad = {{-10001, 5}, {5, 2101}, {-10001, -10001}, {2101, 2101}, {6, 5}, {2100, -10000}, {LEAST, 0}, {0, MOST}, {MOST, LEAST}};
        d.does("coin", 0, 5, 1, 2);
        for (int[] years : bad) {
            d.refuses(Dig.BAD, "coin", 0, 0, years[0], years[1]).refuses(Dig.BAD, "coin", 2, 0, years[0], years[1]);
            d.refuses(Dig.BAD, "coin", 0, 6, years[0], years[1]).refuses(Dig.BAD, "coin", 0, 5, years[0], years[1]);
        }
        int[][] good = {{-10000, -10000}, {2100, 2100}, {-10000, 2100}, {0, 0}, {-1, 1}};
        for (int i = 0; i < good.length; i++) {
            d.due(1, "coin", 0, i, good[i][0], good[i][1]).told(good[i][0], "year", 0, i, false).told(good[i][1], "year", 0, i, true);
            d.due(0, "mark", 0, i, 0);
        }
    }

    private static void sampleBits() {
        Dig d = dig("19: two FLOATS, told by BITS (all that are no number are 2143289344)");
        int[] same = {0, LEAST, 1, 0x7f800000, 0xff800000, 0x7f7fffff, 0xff7fffff, 2143289344, 0x007fffff, 0x80000001};
        int[] none = {0x7f800001, 0x7fffffff, 0xff800001, 0xffffffff, 0x7fc00001, 0xffc00000, 0x7fbfffff};
        int slot = 0;
        for (int bits : same) {
            slot = sampleOf(d, slot, bits, bits);
        }
        for (int bits : none) {
            slot = sampleOf(d, slot, bits, 2143289344);
        }
    }

    private static int sampleOf(Dig d, int slot, int bits, int want) {
        d.due(1, "sample", 0, slot, bits, 7).told(want, "grain", 0, slot, false).told(7, "grain", 0, slot, true);
        d.due(1, "sample", 1, slot, 7, bits).told(7, "grain", 1, slot, false).told(want, "grain", 1, slot, true);
        if (slot == 5) {
            for (int i = 0; i < 12; i++) {
                d.does("undo");
            }
            return 0;
        }
        return slot + 1;
    }

    private static void sherdsBad() {
        Dig d = stocked("20: BAD: TRAY, n is not -100 .. 100; NOTHING (LOST), BEYOND (SLOT), CAST, BEYOND (TYPE); STATE");
        for (int bad : new int[] {-1, 4, -5, LEAST, MOST}) {
            d.refuses(Dig.BAD, "sherds", bad, 0, 0, 1).refuses(Dig.BEYOND, "sherds", 0, bad == 4 ? 6 : bad, 0, 1);
        }
        for (int bad : new int[] {-101, 101, LEAST, MOST}) {
            d.refuses(Dig.BAD, "sherds", 0, 0, 0, bad).refuses(Dig.BAD, "sherds", 2, 0, 0, bad).refuses(Dig.BAD, "sherds", 0, 6, 0, bad);
            d.refuses(Dig.BAD, "sherds", 0, 1, 0, bad).refuses(Dig.BAD, "sherds", 0, 0, 8, bad);
        }
        d.refuses(Dig.NOTHING, "sherds", 2, 6, 8, 1).refuses(Dig.NOTHING, "sherds", 2, 0, 0, 1).refuses(Dig.BEYOND, "sherds", 0, 6, 0, 1);
        for (int slot = 1; slot < 5; slot++) {
            d.refuses(Dig.CAST, "sherds", 0, slot, 0, 1).refuses(Dig.CAST, "sherds", 0, slot, 8, 1).refuses(Dig.CAST, "sherds", 0, slot, 0, -1);
        }
        for (int bad : new int[] {-1, 8, -5, LEAST, MOST}) {
            d.refuses(Dig.BEYOND, "sherds", 0, 0, bad, 1).refuses(Dig.BEYOND, "sherds", 0, 5, bad, 0).refuses(Dig.BEYOND, "sherds", 0, 5, bad, -1);
        }
        d.due(-5, "kind", 0, 5);
    }

    private static void sherdsCount() {
        Dig d = stocked("20: STATE: there would be more than 100, or fewer than none; (of an EMPTY one: new SHERDS)");
        d.due(100, "sherds", 0, 0, 0, 95).refuses(Dig.STATE, "sherds", 0, 0, 0, 1).refuses(Dig.STATE, "sherds", 0, 0, 0, 100);
        d.due(100, "sherds", 0, 0, 0, 0).due(0, "sherds", 0, 0, 0, -100).refuses(Dig.STATE, "sherds", 0, 0, 0, -1);
        d.refuses(Dig.STATE, "sherds", 0, 0, 0, -100).due(0, "sherds", 0, 0, 0, 0).due(0, "kind", 0, 0);
        d.refuses(Dig.STATE, "sherds", 0, 5, 3, -1).due(-5, "kind", 0, 5).due(0, "sherds", 0, 5, 3, 0).due(0, "kind", 0, 5);
        d.does("undo").due(-5, "kind", 0, 5).due(100, "sherds", 0, 5, 7, 100).due(1, "sherds", 0, 5, 0, 1).due(99, "sherds", 0, 5, 7, -1);
        for (int type = 0; type < 8; type++) {
            d.due(type == 7 ? 99 : type == 0 ? 1 : 0, "sherd", 0, 5, type);
        }
        d.due(3, "sherds", 1, 0, 2, 3).due(3, "sherd", 1, 0, 2).due(0, "sherds", 1, 0, 2, -3).due(0, "kind", 1, 0).due(0, "take", 1, 0);
    }

    private static void noteBytes() {
        Dig d = stocked("21: BAD: TRAY, no letters, or another byte; the bytes of w that are not 0, the highest first");
        for (int bad : new int[] {-1, 4, -5, LEAST, MOST}) {
            d.refuses(Dig.BAD, "note", bad, 0, 65);
        }
        d.refuses(Dig.BAD, "note", 0, 3, 0L).refuses(Dig.BAD, "note", 2, 3, 0L).refuses(Dig.BAD, "note", 0, 6, 0L).refuses(Dig.BAD, "note", 0, 1, 0L);
        for (int at = 0; at < 8; at++) {
            for (long bad : new long[] {1, 31, 127, 128, 255}) {
                d.refuses(Dig.BAD, "note", 0, 3, bad << 8 * at).refuses(Dig.BAD, "note", 0, 5, 0x4141414141414141L & ~(255L << 8 * at) | bad << 8 * at);
            }
        }
        d.refuses(Dig.BAD, "note", 0, 5, -1L).refuses(Dig.BAD, "note", 0, 5, Long.MIN_VALUE).refuses(Dig.BAD, "note", 2, 6, 127L);
    }

    private static void noteLetters() {
        Dig d = stocked("21: Up to eight letters come behind the NOTE in a SLOT (of an EMPTY one: a new NOTE): how many it has");
        d.due(2, "note", 0, 3, 32L << 56).due(3, "note", 0, 3, 126L).due(11, "note", 0, 3, 0x4142434445464748L);
        int[] due = {65, 32, 126, 0x41, 0x42, 0x43, 0x44, 0x45, 0x46, 0x47, 0x48};
        for (int k = 0; k < due.length; k++) {
            d.due(due[k], "letter", 0, 3, k);
        }
        d.refuses(Dig.BEYOND, "letter", 0, 3, 11).does("undo").refuses(Dig.BEYOND, "letter", 0, 3, 3).due(126, "letter", 0, 3, 2);
        d.due(1, "note", 0, 5, 126L << 56).due(126, "letter", 0, 5, 0).refuses(Dig.BEYOND, "letter", 0, 5, 1).does("undo");
        d.due(2, "note", 0, 5, 0x0061_0000_0000_6200L).due(0x61, "letter", 0, 5, 0).due(0x62, "letter", 0, 5, 1).due(3, "kind", 0, 5);
        for (int at = 0; at < 8; at++) {
            d.due(3 + at, "note", 0, 5, 65L + at << 8 * at).due(65 + at, "letter", 0, 5, 2 + at);
        }
    }

    private static void noteLength() {
        Dig d = stocked("21: NOTHING (LOST), BEYOND, CAST; STATE: more than 40");
        d.refuses(Dig.NOTHING, "note", 2, 0, 65).refuses(Dig.NOTHING, "note", 2, 6, 65);
        for (int bad : NO_SLOT) {
            d.refuses(Dig.BEYOND, "note", 0, bad, 65);
        }
        for (int slot : new int[] {0, 1, 2, 4}) {
            d.refuses(Dig.CAST, "note", 0, slot, 65);
        }
        for (int n = 9; n <= 33; n += 8) {
            d.due(n, "note", 0, 3, 0x4142434445464748L);
        }
        d.refuses(Dig.STATE, "note", 0, 3, 0x4142434445464748L).due(39, "note", 0, 3, 0x0041424344454600L);
        d.refuses(Dig.STATE, "note", 0, 3, 0x4200000000000041L).due(40, "note", 0, 3, 0x7a).refuses(Dig.STATE, "note", 0, 3, 65);
        d.due(0x7a, "letter", 0, 3, 39).refuses(Dig.BEYOND, "letter", 0, 3, 40).due(0x46, "letter", 0, 3, 38);
        d.does("undo").refuses(Dig.BEYOND, "letter", 0, 3, 39).due(40, "note", 0, 3, 65);
    }

    private static void bag() {
        Dig d = stocked("22: BAD: n above 40; SIZE (ahead of all other FINDINGS); its number as a TRAY");
        for (int bad : new int[] {41, 100, MOST}) {
            d.refuses(Dig.BAD, "bag", 0, 5, bad).refuses(Dig.BAD, "bag", 2, 5, bad).refuses(Dig.BAD, "bag", 0, 6, bad);
        }
        for (int bad : new int[] {-1, -5, LEAST}) {
            d.refuses(Dig.SIZE, "bag", 0, 5, bad).refuses(Dig.SIZE, "bag", 2, 5, bad).refuses(Dig.SIZE, "bag", 0, 6, bad);
            d.refuses(Dig.SIZE, "bag", 0, 0, bad).refuses(Dig.BAD, "bag", 4, 0, bad);
        }
        d.due(4, "bag", 0, 5, 40).due(5, "bag", 4, 39, 0).due(5, "bagged", 4, 39).refuses(Dig.BEYOND, "kind", 5, 0);
        d.refuses(Dig.BEYOND, "kind", 4, 40).due(-5, "kind", 4, 38).due(6, "tray", 0, 1).due(7, "bag", 6, 0, 1).due(8, "count", 3);
        d.does("undo").due(-5, "kind", 6, 0).refuses(Dig.BAD, "kind", 7, 0).due(7, "count", 3);
    }

    private static void take() {
        Dig d = stocked("23: What a SLOT holds goes: its KIND. BAD; NOTHING: LOST, EMPTY; BEYOND");
        for (int bad : new int[] {-1, 4, -5, LEAST, MOST}) {
            d.refuses(Dig.BAD, "take", bad, 0);
        }
        for (int bad : NO_SLOT) {
            d.refuses(Dig.BEYOND, "take", 0, bad).refuses(Dig.NOTHING, "take", 2, bad);
        }
        d.refuses(Dig.NOTHING, "take", 2, 0).refuses(Dig.NOTHING, "take", 0, 5);
        for (int kind = 0; kind < 5; kind++) {
            d.due(kind, "take", 0, kind).due(-5, "kind", 0, kind).refuses(Dig.NOTHING, "take", 0, kind);
        }
        d.due(1, "coin", 0, 4, 1, 2);
    }

    private static void takeBag() {
        Dig d = stocked("23: (a BAG is a TRAY still, in no SLOT)");
        d.does("sherds", 3, 1, 0, 9).due(14, "total", 0, 0).due(4, "take", 0, 4).due(5, "total", 0, 0).due(5, "total", -5, 0);
        d.due(9, "sherd", 3, 1, 0).due(4, "count", 3).due(4, "bag", 3, 0, 1).due(1, "join", 3, 1, 3, 1).due(0, "joins", 0, 0);
        d.due(1, "coin", 0, 4, 1, 2).due(1, "lose", 3).refuses(Dig.NOTHING, "kind", 3, 1).due(-5, "kind", 4, 0);
    }

    private static void takeOthers() {
        Dig d = dig("23: What a SLOT holds goes, and nothing else: BAGS stay where they are, whatever numbers a FIND has");
        d.does("bag", 0, 0, 2).does("sherds", 3, 0, 7, 9).does("sherds", 0, 1, 0, 3).does("coin", 0, 2, 3, 3).does("sample", 0, 3, 3, 3);
        for (int slot = 1; slot <= 3; slot++) {
            d.does("move", 0, slot, 1, slot).due(9, "total", 0, 7).due(3, "bagged", 0, 0);
            d.does("take", 1, slot).due(9, "total", 0, 7).refuses(Dig.STORE, "move", 0, 0, 3, 1);
        }
    }

    private static void moveRefused() {
        Dig d = stocked("24: BAD: TRAYS; NOTHING, BEYOND (the first SLOT; then that it is EMPTY: NOTHING; then the other SLOT); STORE; STATE");
        for (int bad : new int[] {-1, 4, -5, LEAST, MOST}) {
            d.refuses(Dig.BAD, "move", bad, 0, 0, 5).refuses(Dig.BAD, "move", 0, 0, bad, 5).refuses(Dig.BAD, "move", 2, 0, bad, 5);
        }
        for (int bad : NO_SLOT) {
            d.refuses(Dig.BEYOND, "move", 0, bad, 0, 5).refuses(Dig.BEYOND, "move", 0, bad, 2, 5).refuses(Dig.NOTHING, "move", 2, bad, 0, bad);
            d.refuses(Dig.BEYOND, "move", 0, 0, 1, bad).refuses(Dig.NOTHING, "move", 0, 0, 2, bad).refuses(Dig.NOTHING, "move", 0, 5, 0, bad);
            d.refuses(Dig.BEYOND, "move", 0, 4, 3, bad);
        }
        d.refuses(Dig.NOTHING, "move", 0, 5, 0, 0).refuses(Dig.NOTHING, "move", 0, 5, 0, 5).refuses(Dig.NOTHING, "move", 0, 0, 2, 0);
        for (int slot = 0; slot < 5; slot++) {
            d.refuses(Dig.STATE, "move", 0, slot, 0, slot).refuses(Dig.STATE, "move", 0, slot, 0, (slot + 1) % 5);
        }
    }

    private static void move() {
        Dig d = stocked("24: What a SLOT holds comes into another one, with its MARK: its KIND");
        d.does("mark", 0, 1, 1).does("mark", 0, 2, 2);
        for (int kind = 0; kind < 5; kind++) {
            d.due(kind, "move", 0, kind, 1, 5 - kind).due(-5, "kind", 0, kind).due(kind, "kind", 1, 5 - kind);
        }
        d.due(1, "mark", 1, 4, 1).due(2, "mark", 1, 3, 2).told(100, "year", 1, 4, false).due(65, "letter", 1, 2, 0).due(5, "sherd", 1, 5, 0);
        d.due(3, "bagged", 1, 1).due(0, "move", 1, 5, 1, 0).due(0, "move", 1, 0, 3, 1).due(5, "total", 1, 0);
        for (int i = 0; i < 9; i++) {
            d.does("undo");
        }
        for (int kind = 0; kind < 5; kind++) {
            d.due(kind, "kind", 0, kind).due(-5, "kind", 1, 5 - kind);
        }
        d.due(5, "total", 0, 0).due(1, "mark", 0, 1, 1);
    }

    private static void moveStore() {
        Dig d = stocked("24: STORE: it is a BAG, and the other SLOT is one of its own, or of a BAG in it, at whatever depth; ahead of STATE");
        d.refuses(Dig.STORE, "move", 0, 4, 3, 0).refuses(Dig.STORE, "move", 0, 4, 3, 1);
        for (int t = 3; t < 58; t++) {
            d.due(t + 1, "bag", t, 0, 2);
        }
        d.refuses(Dig.STORE, "move", 0, 4, 58, 0).refuses(Dig.STORE, "move", 0, 4, 58, 1).refuses(Dig.STORE, "move", 0, 4, 30, 0);
        d.refuses(Dig.STORE, "move", 57, 0, 58, 0).refuses(Dig.BEYOND, "move", 0, 4, 58, 2);
        d.due(0, "move", 0, 0, 58, 0).due(5, "total", 0, 0).due(4, "move", 57, 0, 57, 1).due(4, "move", 57, 1, 4, 1);
        d.refuses(Dig.STORE, "move", 0, 4, 58, 1).due(4, "move", 30, 0, 1, 0).due(4, "move", 0, 4, 57, 0).due(5, "total", 1, 0);
        d.refuses(Dig.STORE, "move", 1, 0, 58, 1).refuses(Dig.STORE, "move", 1, 0, 30, 0).due(4, "move", 4, 1, 0, 4).due(5, "total", 0, 0);
        d.due(4, "move", 1, 0, 58, 1).refuses(Dig.STORE, "move", 0, 4, 57, 1).refuses(Dig.STORE, "move", 0, 4, 30, 0);
    }

    private static void moveStoreLost() {
        Dig d = stocked("24: STORE: of a BAG in it: a BAG that lay in a LOST one has no place");
        d.does("bag", 3, 0, 2).does("bag", 4, 0, 2).refuses(Dig.STORE, "move", 0, 4, 5, 0).does("lose", 4);
        d.due(4, "move", 0, 4, 5, 0).refuses(Dig.STORE, "move", 5, 0, 3, 1).due(4, "take", 5, 0).due(4, "move", 3, 0, 5, 1);
    }

    private static void kind() {
        Dig d = stocked("25: What a SLOT holds; NONE: it is EMPTY. BAD; NOTHING: LOST; BEYOND");
        for (int slot = 0; slot < 6; slot++) {
            d.due(slot < 5 ? slot : -5, "kind", 0, slot);
        }
        for (int bad : new int[] {-1, 4, -5, LEAST, MOST}) {
            d.refuses(Dig.BAD, "kind", bad, 0).refuses(Dig.BAD, "kind", bad, 9);
        }
        for (int bad : NO_SLOT) {
            d.refuses(Dig.BEYOND, "kind", 0, bad).refuses(Dig.NOTHING, "kind", 2, bad);
        }
        d.refuses(Dig.NOTHING, "kind", 2, 0).refuses(Dig.NONE, "kind", 0, 5).due(0, "status");
        d.does("tray", 0, 0).refuses(Dig.BEYOND, "kind", 4, 0);
    }

    public static void main(String[] args) {
        trayNumbers();
        traysOfUnit();
        traysFull();
        lastSlot();
        lose();
        lost();
        lostBag();
        slotsOfNew();
        coinYears();
        sampleBits();
        sherdsBad();
        sherdsCount();
        noteBytes();
        noteLetters();
        noteLength();
        bag();
        take();
        takeBag();
        takeOthers();
        moveRefused();
        move();
        moveStore();
        moveStoreLost();
        kind();
        Dig.end("EdgesOfTraysTest");
    }
}
