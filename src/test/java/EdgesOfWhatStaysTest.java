/** What a call leaves as it is: THE RING, THE TRACE, asked(), status() and the SEQUENCE AT HAND, behind each call of the face. */
public final class EdgesOfWhatStaysTest {
    private static final int TOLD = -200, AS_IT_WAS = Integer.MIN_VALUE, NOT_AT_HAND = -1;

    /**
     * UNITS 0 LAYER, 1 CUT, 2 FILL, 3 BURIAL; TRAY 0 with all KINDS of FINDS (the BAG is TRAY 1) and SLOT 5 EMPTY; a QUARREL; and
     * THE RING 0, THE TRACE 5, 4, 1, asked() -200, status() RING, and the second SEQUENCE AT HAND.
     */
    private static Dig ready(String sentence) {
        Dig d = new Dig(sentence);
        d.does("unit", 0, 0).does("unit", 1, 0).does("unit", 2, 0).does("unit", 4, 5).does("above", 0, 1).does("tray", 0, 6);
        d.does("sherds", 0, 0, 0, 5).does("coin", 0, 1, 1000, 1001).does("sample", 0, 2, 0, 0).does("note", 0, 3, 65).does("bag", 0, 4, 2);
        d.does("span", 0, 0, 900).due(1, "quarrel").told(TOLD, "asks", 3, 0).due(Dig.RING, "above", 1, 0);
        return stays(d.due(4, "first").due(1, "next"), TOLD, Dig.RING, 0);
    }

    /** Gone: how many SEQUENCES on from the one that was AT HAND; NOT_AT_HAND: none is. */
    private static Dig stays(Dig d, int asked, int status, int gone) {
        d.list("ring", 0).list("trace", 5, 4, 1).due(asked, "asked").due(status, "status");
        switch (gone) {
            case NOT_AT_HAND:
                return d.list("place").due(Dig.STATE, "next");
            case 1:
                return d.list("place", 1, 2, 0, 3);
            default:
                return d.list("place", 1, 0, 3, 2);
        }
    }

    private static void done(int want, int gone, String name, Object... args) {
        Dig d = ready(name + "(), done: THE RING, THE TRACE, asked() stay");
        stays(d.due(want, name, args), TOLD, 0, gone);
        d.does("undo").list("ring").list("trace", 5, 4, 1).due(TOLD, "asked").due(0, "status").list("place").due(Dig.STATE, "next");
    }

    private static void refused(int want, String name, Object... args) {
        stays(ready(name + "(), refused: all but status() stays").due(want, name, args), TOLD, want, 0);
    }

    private static void leftOut(int why, String name, Object... args) {
        stays(ready(name + "(), left out: all but status() stays").due(0, name, args), TOLD, why, 0);
    }

    private static void question(long want, String name, Object... args) {
        stays(ready(name + "() is a question").due(want, name, args), TOLD, Dig.RING, 0);
    }

    private static void telling(int want, String name, Object... args) {
        stays(ready(name + "() is a question that tells").told(want, name, args), want, Dig.RING, 0);
    }

    private static void actsDone() {
        done(4, NOT_AT_HAND, "unit", 0, 0);
        done(1, NOT_AT_HAND, "above", 3, 0);
        done(1, NOT_AT_HAND, "cut", 3, 0);
        done(1, NOT_AT_HAND, "fill", 2, 1);
        done(1, NOT_AT_HAND, "bond", 2, 3);
        done(2, 0, "tray", 0, 1);
        done(1, 0, "lose", 0);
        done(1, 0, "coin", 0, 5, 1, 2);
        done(1, 0, "sample", 0, 5, 1, 2);
        done(6, 0, "sherds", 0, 0, 0, 1);
        done(2, 0, "note", 0, 3, 66);
        done(2, 0, "bag", 0, 5, 1);
        done(1, 0, "take", 0, 1);
        done(1, 0, "move", 0, 1, 0, 5);
        done(0, 0, "mark", 0, 1, 1);
        done(2, 0, "copy", 0, 0, 2, 1, 0);
        done(1, 0, "join", 0, 0, 0, 0);
        done(1, 0, "span", 1, 0, 1);
    }

    private static void actsRefused() {
        refused(Dig.BAD, "unit", 5, 0);
        refused(Dig.BAD, "above", 0, 4);
        refused(Dig.CAST, "cut", 0, 3);
        refused(Dig.CAST, "fill", 3, 1);
        refused(Dig.BAD, "bond", 0, 4);
        refused(Dig.SIZE, "tray", 0, -1);
        refused(Dig.BAD, "lose", 2);
        refused(Dig.STATE, "coin", 0, 1, 1, 2);
        refused(Dig.BEYOND, "sample", 0, 6, 1, 2);
        refused(Dig.CAST, "sherds", 0, 1, 0, 1);
        refused(Dig.CAST, "note", 0, 0, 65);
        refused(Dig.SIZE, "bag", 0, 5, -1);
        refused(Dig.NOTHING, "take", 0, 5);
        refused(Dig.STORE, "move", 0, 4, 1, 0);
        refused(Dig.CAST, "mark", 0, 0, 1);
        refused(Dig.BAD, "copy", 0, 0, 41, 0, 5);
        refused(Dig.CAST, "join", 0, 0, 0, 1);
        refused(Dig.BAD, "span", 0, 1, 0);
        leftOut(0, "bond", 0, 0);
        leftOut(0, "copy", 0, 0, 0, 0, 5);
        leftOut(Dig.STATE, "copy", 0, 4, 1, 0, 5);
        leftOut(Dig.BEYOND, "copy", 0, 6, 1, 0, 5);
    }

    private static void questions() {
        question(TOLD, "asked");
        question(4, "trace", 1);
        question(Dig.NONE, "trace", 3);
        question(0, "ring", 0);
        question(Dig.NONE, "ring", 1);
        question(0, "relation", 0, 3);
        question(Dig.BAD, "relation", 1, 0);
        question(1, "later", 0, 1);
        question(Dig.BAD, "later", 0, 4);
        question(3, "block", 3);
        question(Dig.BAD, "block", 4);
        question(0, "chart", 0);
        question(Dig.NONE, "chart", 1);
        question(1, "row", 0);
        question(Dig.BAD, "row", 4);
        question(3, "kind", 0, 3);
        question(Dig.BEYOND, "kind", 0, 6);
        question(5, "sherd", 0, 0, 0);
        question(Dig.CAST, "sherd", 0, 1, 0);
        question(65, "letter", 0, 3, 0);
        question(Dig.BEYOND, "letter", 0, 3, 1);
        question(1, "bagged", 0, 4);
        question(Dig.NOTHING, "bagged", 0, 5);
        question(0, "joins", 0, 0);
        question(Dig.BAD, "joins", 0, 4);
        question(5, "total", 0, 0);
        question(Dig.BAD, "total", 4, 0);
        question(1000, "share", 0, 0);
        question(Dig.NOUGHT, "share", 1, 0);
        question(1, "quarrel");
        question(12, "orders");
        question(1, "place", 0);
        question(Dig.NONE, "place", 4);
        question(4, "count", 0);
        question(Dig.BAD, "count", 13);
        question(Dig.RING, "status");
        Dig d = ready("digest() is a question");
        d.answer("digest");
        stays(d, TOLD, Dig.RING, 0);
    }

    private static void tellings() {
        telling(1000, "year", 0, 1, false);
        question(Dig.CAST, "year", 0, 0, false);
        telling(0, "grain", 0, 2, true);
        question(Dig.NOTHING, "grain", 0, 5, true);
        telling(1000, "drawn", 0, 0);
        question(Dig.BAD, "drawn", 0, 3);
        telling(1000, "because", 1);
        question(Dig.NONE, "because", 8);
        question(Dig.BAD, "asks", 3, 5);
        ready("asks() is a question that tells").told(66, "asks", 3, 3).list("trace", 32, 31).list("ring", 0).due(Dig.RING, "status").list("place", 1, 0, 3, 2);
    }

    private static void sequences() {
        stays(ready("next() leaves all but the SEQUENCE").due(1, "next"), TOLD, Dig.RING, 1);
        Dig d = ready("first() leaves all but the SEQUENCE").due(4, "first").due(1, "next");
        stays(d, TOLD, Dig.RING, 0);
    }

    public static void main(String[] args) {
        actsDone();
        actsRefused();
        questions();
        tellings();
        sequences();
        Dig.end("EdgesOfWhatStaysTest");
    }
}
