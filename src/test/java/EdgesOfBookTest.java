/** The boundary cases of promises 45 to 48 and of THE BOOK, sentence by sentence. */
public final class EdgesOfBookTest {
    private static final int LEAST = Integer.MIN_VALUE, MOST = Integer.MAX_VALUE;

    /** All sorts of what a dig has, 16 acts: TRAY 0 with all KINDS of FINDS, TRAY 3 LOST, and an EMPTY SLOT 5. */
    private static Dig stocked(String sentence) {
        Dig d = new Dig(sentence);
        d.units(0, 1, 2, 4).does("above", 0, 1).does("bond", 0, 2).does("tray", 0, 6).does("tray", 3, 6);
        d.does("sherds", 0, 0, 0, 5).does("coin", 0, 1, 100, 120).does("sample", 0, 2, 0, 0).does("note", 0, 3, 65).does("bag", 0, 4, 2);
        return d.does("tray", 0, 2).does("lose", 3).does("join", 0, 0, 0, 0);
    }

    private static Dig full(String sentence) {
        Dig d = stocked(sentence).due(16, "count", 4);
        for (int acts = 16; acts < 300; acts++) {
            d.does("span", 1, acts, 1000);
        }
        return d.due(300, "count", 4);
    }

    private static void fullActs() {
        Dig d = full("300 at most: when it has so many each ACT is FULL");
        Object[][] done = {
            {"unit", 0, 0}, {"above", 0, 3}, {"cut", 1, 3}, {"fill", 2, 3}, {"bond", 1, 3}, {"tray", 0, 1}, {"lose", 0}, {"coin", 0, 5, 1, 2},
            {"sample", 0, 5, 1, 2}, {"sherds", 0, 0, 0, 1}, {"note", 0, 3, 65}, {"bag", 0, 5, 1}, {"take", 0, 0}, {"move", 0, 0, 0, 5},
            {"mark", 0, 1, 1}, {"copy", 0, 0, 1, 0, 5}, {"join", 0, 0, 0, 0}, {"span", 0, 1, 2}, {"bond", 0, 2}, {"bond", 1, 1}, {"lose", 3},
            {"copy", 0, 0, 0, 0, 5}};
        for (Object[] c : done) {
            // So that status() has to become FULL anew.
            d.due(Dig.BAD, "unit", 5, 0);
            refuses(d, Dig.FULL, c);
        }
    }

    private static void fullRefused() {
        Dig d = full("FULL ahead of FINDINGS, STATE, RING, where nothing else is told");
        Object[][] refused = {
            {"above", 1, 0}, {"above", 0, 0}, {"cut", 0, 1}, {"fill", 0, 1}, {"bond", 0, 1}, {"tray", 0, -1}, {"coin", 3, 0, 1, 2},
            {"coin", 0, 6, 1, 2}, {"coin", 0, 0, 1, 2}, {"sample", 3, 0, 0, 0}, {"sample", 0, 0, 0, 0}, {"sherds", 0, 1, 0, 1}, {"sherds", 0, 0, 8, 1},
            {"sherds", 0, 0, 0, 100}, {"note", 0, 0, 65}, {"bag", 0, 5, -1}, {"bag", 0, 0, 1}, {"take", 0, 5}, {"take", 3, 0}, {"move", 0, 4, 2, 0},
            {"move", 0, 5, 0, 0}, {"mark", 0, 0, 1}, {"mark", 3, 0, 1}, {"copy", 3, 0, 1, 0, 0}, {"copy", 0, 4, 1, 0, 0}, {"join", 0, 1, 0, 0},
            {"join", 0, 0, 3, 0}};
        for (Object[] c : refused) {
            refuses(d, Dig.FULL, c);
        }
        for (int what = 5; what <= 10; what++) {
            d.due(0, "count", what);
        }
    }

    private static void fullBad() {
        Dig d = full("each ACT is FULL, behind BAD");
        Object[][] bad = {
            {"unit", 5, 0}, {"above", 0, 4}, {"cut", 1, -1}, {"fill", 9, 1}, {"bond", 0, 4}, {"tray", 0, 41}, {"lose", 5}, {"coin", 0, 5, 2, 1},
            {"sample", 5, 5, 1, 2}, {"sherds", 0, 0, 0, 101}, {"note", 0, 3, 0}, {"bag", 0, 5, 41}, {"take", 5, 0}, {"move", 0, 0, 5, 5},
            {"mark", 0, 1, 3}, {"copy", 0, 0, 41, 0, 5}, {"join", 0, 0, 5, 0}, {"span", 0, 2, 1}};
        for (Object[] c : bad) {
            refuses(d, Dig.BAD, c);
        }
        d.told(0, "asks", 0, 4).due(4, "count", 0).due(299, "undo").does("unit", 0, 0).refuses(Dig.FULL, "unit", 0, 0);
    }

    private static void refuses(Dig d, int want, Object[] call) {
        Object[] args = new Object[call.length - 1];
        System.arraycopy(call, 1, args, 0, args.length);
        d.refuses(want, (String) call[0], args);
    }

    private static void bookHas() {
        Dig d = new Dig("THE BOOK has the ACTS that were done (not refused, nor told to be left out)");
        d.due(0, "count", 4).does("unit", 4, 0).due(1, "count", 4).refuses(Dig.BAD, "unit", 5, 0).leavesOut("bond", 0, 0).due(1, "count", 4);
        d.due(0, "tray", 0, 3).due(0, "sherds", 0, 0, 0, 0).due(0, "take", 0, 0).due(4, "count", 4).due(1, "coin", 0, 0, 1, 2).due(0, "mark", 0, 0, 0);
        d.due(6, "count", 4).leavesOut("copy", 0, 0, 0, 0, 1).due(0, "copy", 0, 3, 1, 0, 0).due(6, "count", 4).does("lose", 0).leavesOut("lose", 0);
        d.due(7, "count", 4).told(6, "asks", 0, 1).due(1, "first").due(0, "next").due(7, "count", 4).does("undo").due(6, "count", 4);
        d.does("span", 0, -10000, 2100).due(7, "count", 4).due(1, "copy", 0, 0, 1, 0, 0).due(8, "count", 4).due(7, "undo").due(6, "undo");
    }

    private static void undo() {
        Dig d = stocked("45: The latest act goes out of THE BOOK: how many it has then. STATE: it has none");
        d.told(1, "asks", 3, 4).refuses(Dig.RING, "above", 1, 0).refuses(Dig.CAST, "cut", 0, 1);
        for (int acts = 15; acts >= 0; acts--) {
            d.due(acts, "undo").list("ring").due(acts, "count", 4);
        }
        d.refuses(Dig.STATE, "undo").refuses(Dig.STATE, "undo").due(17, "digest").due(Dig.CAST, "status").due(1, "asked").list("trace", 41);
        for (int what = 0; what <= 12; what++) {
            d.due(what == 7 ? 1 : 0, "count", what);
        }
        d.due(0, "unit", 3, 9).told(18, "asks", 0, 0).due(0, "tray", 0, 1).due(-5, "kind", 0, 0).due(-5, "chart", 0);
    }

    /** Each act changes the digest or a count, and undo() brings back all that was ahead of it. */
    private static void undoEach() {
        Object[][] acts = {
            {"unit", 0, 0}, {"above", 0, 3}, {"cut", 1, 3}, {"fill", 2, 3}, {"bond", 1, 3}, {"tray", 0, 1}, {"lose", 0}, {"lose", 2},
            {"coin", 0, 5, 1, 2}, {"sample", 0, 5, 1, 2}, {"sherds", 0, 0, 0, 1}, {"sherds", 0, 5, 0, 0}, {"note", 0, 3, 66}, {"note", 0, 5, 65},
            {"bag", 0, 5, 1}, {"take", 0, 0}, {"take", 0, 4}, {"move", 0, 0, 0, 5}, {"move", 0, 4, 0, 5}, {"mark", 0, 1, 1},
            {"copy", 0, 0, 1, 0, 5}, {"copy", 0, 5, 1, 0, 0}, {"copy", 0, 0, 3, 0, 1}, {"join", 0, 0, 0, 0}, {"span", 0, 1, 2}};
        for (Object[] c : acts) {
            Dig d = stocked("undo(): all is as if just those that are in it had been done");
            long digest = d.answer("digest");
            long bag = d.answer("bagged", 0, 4);
            Object[] args = new Object[c.length - 1];
            System.arraycopy(c, 1, args, 0, args.length);
            d.does((String) c[0], args).due(0, "status").due(17, "count", 4).due(16, "undo").due(digest, "digest");
            d.due(4, "count", 0).due(1, "count", 1).due(3, "count", 2).due(4, "count", 3).due(1, "count", 11).due(1, "count", 12);
            d.due(bag, "bagged", 0, 4).due(0, "sherds", 2, 0, 7, 0).due(5, "total", 0, -5).told(100, "drawn", 0, 0);
        }
    }

    /** Acts with many changes each: none is forgotten, and the first of them is as near as the latest. */
    private static void undoMany() {
        Dig d = new Dig("undo(): all is as if just those that are in it had been done, however many changes they made");
        d.units(4, 0).does("tray", 0, 40).does("tray", 1, 40).does("coin", 0, 0, 1, 2).does("sherds", 0, 1, 3, 4).does("note", 0, 2, 65);
        long[] digests = new long[100];
        for (int i = 0; i < digests.length; i++) {
            digests[i] = d.answer("digest");
            if (i % 4 == 3) {
                d.does("span", i / 4 % 2, i, 1000 + i);
            } else {
                d.does("copy", i % 2, 0, 40, (i + 1) % 2, i % 3);
            }
        }
        for (int i = digests.length - 1; i >= 0; i--) {
            d.due(7 + i, "undo").due(digests[i], "digest");
        }
        d.due(4, "total", 0, -5).due(0, "total", 1, -5).told(1, "year", 0, 0, false).due(65, "letter", 0, 2, 0).due(-5, "kind", 1, 0);
    }

    private static void undoAfterUndo() {
        Dig d = new Dig("undo(): as if just those that are in it had been done, ahead of it nothing: what went back before leaves no trace");
        d.layers(2).does("span", 0, 1, 10).does("span", 0, 2, 20).due(3, "undo").due(2, "undo").does("span", 0, -10000, 30);
        d.does("span", 1, 5, 40).due(3, "undo").told(-10000, "drawn", 0, 0).told(30, "drawn", 0, 1).told(-10000, "drawn", 1, 0).told(2100, "drawn", 1, 1);
        d.due(2, "undo").told(2100, "drawn", 0, 1).does("tray", 0, 2).does("coin", 0, 0, 7, 8).does("undo").does("sherds", 0, 0, 1, 3);
        d.does("undo").does("note", 0, 0, 65).due(3, "kind", 0, 0).due(65, "letter", 0, 0, 0).does("undo").due(-5, "kind", 0, 0);
        d.does("undo").does("tray", 1, 1).refuses(Dig.BEYOND, "kind", 0, 1).due(-5, "kind", 0, 0).does("sherds", 0, 0, 0, 2).due(2, "total", 1, 0);
    }

    private static void bookOfFinds() {
        Dig d = new Dig("300 at most, each with a FIND of its own");
        d.layers(1).does("tray", 0, 3).does("coin", 0, 1, 5, 6).does("sample", 0, 2, 7, 8);
        for (int acts = 4; acts < 300; acts++) {
            d.due(acts % 2 == 0 ? 1 : 0, "sherds", 0, 0, acts / 2 % 8, acts % 2 == 0 ? 1 : -1);
            if (acts % 10 == 9) {
                d.due(acts, "undo").due(0, "sherds", 0, 0, acts / 2 % 8, -1);
            }
        }
        d.due(300, "count", 4).refuses(Dig.FULL, "sherds", 0, 0, 0, 1).due(0, "total", 0, -5).due(299, "undo").due(1, "total", 0, -5);
        d.due(1, "sherd", 0, 0, 299 / 2 % 8).due(0, "mark", 0, 1, 2).told(6, "year", 0, 1, true).told(8, "grain", 0, 2, true);
        d.refuses(Dig.FULL, "mark", 0, 1, 1).due(299, "undo").due(0, "sherds", 0, 0, 299 / 2 % 8, -1).due(0, "sherd", 0, 0, 299 / 2 % 8);
    }

    private static void undoStays() {
        Dig d = stocked("how often FINDINGS came, status(), asked(), THE TRACE stay; THE RING is none");
        d.told(120, "year", 0, 1, true).refuses(Dig.BEYOND, "kind", 0, 6).refuses(Dig.NOTHING, "take", 0, 5).refuses(Dig.SIZE, "bag", 0, 5, -1);
        d.refuses(Dig.STORE, "move", 0, 4, 2, 0).told(66, "asks", 3, 3).refuses(Dig.NOUGHT, "share", 3, 0).refuses(Dig.CAST, "mark", 0, 0, 1);
        d.refuses(Dig.RING, "above", 1, 0).list("ring", 0).due(15, "undo").list("ring").due(Dig.RING, "status").due(66, "asked").list("trace", 32, 31);
        for (int what = 5; what <= 10; what++) {
            d.due(1, "count", what);
        }
        d.due(1, "join", 0, 0, 0, 0).due(0, "status").due(15, "undo").due(0, "status");
    }

    private static void count() {
        Dig few = new Dig("46: 0 UNITS, 1 RELATIONS, 2 BLOCKS, 3 TRAYS, of each one or none");
        few.due(0, "count", 0).due(0, "count", 2).does("unit", 0, 0).due(1, "count", 0).due(1, "count", 2).due(0, "count", 3).does("tray", 0, 0);
        few.due(1, "count", 3).due(0, "count", 1).does("unit", 0, 0).does("above", 0, 1).due(1, "count", 1).due(2, "count", 2);
        Dig d = stocked("46: 0 .. 12. BAD");
        for (int bad : new int[] {-1, 13, -5, LEAST, MOST}) {
            d.refuses(Dig.BAD, "count", bad);
        }
        d.refuses(Dig.NOTHING, "kind", 3, 0);
        d.refuses(Dig.BEYOND, "kind", 0, 6).refuses(Dig.BEYOND, "kind", 0, 6);
        d.refuses(Dig.CAST, "mark", 0, 0, 0).refuses(Dig.CAST, "cut", 0, 1).refuses(Dig.CAST, "year", 0, 0, true);
        for (int i = 0; i < 4; i++) {
            d.refuses(Dig.NOUGHT, "share", 3, 0);
        }
        for (int i = 0; i < 5; i++) {
            d.refuses(Dig.SIZE, "tray", 0, -1);
        }
        for (int i = 0; i < 6; i++) {
            d.refuses(Dig.STORE, "move", 0, 4, 2, 0);
        }
        d.does("above", 0, 1).does("above", 0, 3).does("join", 0, 0, 0, 0);
        int[] due = {4, 3, 3, 4, 19, 1, 2, 3, 4, 5, 6, 2, 2};
        for (int what = 0; what <= 12; what++) {
            d.due(due[what], "count", what);
        }
    }

    private static void status() {
        Dig d = new Dig("47: Of the latest ACT: 0, or what it answered below 0 (of copy(): why it ended); 0 before");
        d.due(0, "status").refuses(Dig.STATE, "undo").due(0, "status").refuses(Dig.BAD, "unit", 5, 0).due(-1, "status");
        d.due(0, "unit", 4, 0).due(0, "status").due(1, "unit", 4, 0).due(0, "status").refuses(Dig.RING, "above", 0, 0).due(-4, "status");
        d.leavesOut("bond", 0, 0).due(0, "status").refuses(Dig.SIZE, "tray", 0, -1).due(-15, "status").due(0, "tray", 0, 3).due(0, "status");
        d.due(1, "coin", 0, 0, 1, 2).refuses(Dig.STATE, "coin", 0, 0, 1, 2).due(-2, "status").does("undo").due(-2, "status");
        d.due(1, "coin", 0, 2, 1, 2).due(1, "copy", 0, 2, 2, 0, 0).due(-12, "status").due(0, "copy", 0, 0, 1, 0, 3).due(-12, "status");
        d.leavesOut("copy", 0, 0, 0, 0, 3).due(0, "status");
    }

    private static void statusOfQuestions() {
        Dig d = stocked("47: Of the latest ACT: questions, first(), next() and undo() leave it");
        d.refuses(Dig.CAST, "cut", 0, 1).refuses(Dig.BEYOND, "kind", 0, 6).refuses(Dig.BAD, "kind", 9, 0).refuses(Dig.NOUGHT, "share", 3, 0);
        d.refuses(Dig.NOUGHT, "asks", 3, 0).told(1, "asks", 3, 4).due(3, "first").due(1, "next").due(15, "undo").due(Dig.CAST, "status");
        d.due(1, "join", 0, 0, 0, 0).due(0, "status").refuses(Dig.BEYOND, "kind", 0, 6).refuses(Dig.STATE, "next").due(0, "status");
        d.due(1, "copy", 0, 5, 2, 1, 0).refuses(Dig.NOTHING, "kind", 3, 0).due(Dig.BEYOND, "status");
    }

    private static long hash(long from, long... values) {
        long h = from;
        for (long v : values) {
            h = 31 * h + v;
        }
        return h;
    }

    private static void digest() {
        Dig d = new Dig("48: h = 17; then h = 31 h + v for each v");
        d.due(17, "digest").does("unit", 4, 999).due(hash(17, 4, 999, 0, -10000, 2100), "digest").does("unit", 2, 0);
        d.does("span", 0, -3, 5).does("bond", 1, 0);
        long units = hash(17, 4, 999, 0, -3, 5, 2, 0, 0, -10000, 2100);
        d.due(units, "digest").does("unit", 1, 1).does("fill", 1, 2).does("above", 0, 2);
        long web = hash(units, 1, 1, 2, -10000, 2100, 2, 1, 2, 0, 0, 2);
        d.due(web, "digest").does("tray", 0, 0).due(hash(web, 0), "digest").does("tray", 0, 2).due(hash(web, 0, 2, -5, -5), "digest");
        d.does("coin", 1, 1, -7, 8).due(hash(web, 0, 2, -5, 1, 0, -7, 8), "digest").does("mark", 1, 1, 2);
        d.due(hash(web, 0, 2, -5, 1, 2, -7, 8), "digest").does("sample", 1, 0, 0xffffffff, LEAST).does("mark", 1, 0, 1);
        d.due(hash(web, 0, 2, 2, 1, 2143289344, LEAST, 1, 2, -7, 8), "digest").does("take", 1, 0).does("take", 1, 1);
        d.does("note", 1, 0, 0x4100000000000042L).does("bag", 1, 1, 1).due(hash(web, 0, 2, 3, 0, 2, 65, 66, 4, 0, 2, 1, -5), "digest");
        d.does("sherds", 2, 0, 7, 100).does("sherds", 2, 0, 0, 1);
        long trays = hash(web, 0, 2, 3, 0, 2, 65, 66, 4, 0, 2, 1, 0, 0, 1, 0, 0, 0, 0, 0, 0, 100);
        d.due(trays, "digest").does("join", 2, 0, 2, 0).due(hash(trays, 0, 0), "digest").does("take", 1, 1).does("join", 2, 0, 2, 0);
        d.does("lose", 1).due(hash(web, 0, -1, 1, 0, 0, 1, 0, 0, 0, 0, 0, 0, 100, 0, 0, -5, -5), "digest");
        d.does("tray", 2, 1).does("sherds", 3, 0, 0, 0).does("join", 3, 0, 2, 0).does("lose", 2);
        d.due(hash(web, 0, -1, -1, 1, 0, 0, 0, 0, 0, 0, 0, 0, 0, 0, 0, 0, -5, -5, 2, -5), "digest");
    }

    public static void main(String[] args) {
        fullActs();
        fullRefused();
        fullBad();
        bookHas();
        undo();
        undoEach();
        undoMany();
        undoAfterUndo();
        bookOfFinds();
        undoStays();
        count();
        status();
        statusOfQuestions();
        digest();
        Dig.end("EdgesOfBookTest");
    }
}
