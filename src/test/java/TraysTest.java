/** Promises 16 to 36: the trays and what lies in them. */
public final class TraysTest {
    private static final Check CHECK = new Check("TraysTest");
    private static final int NAN = 2143289344;

    private static void due(String call, long got, long want) {
        CHECK.due(call, got, want);
    }

    /** UNITS 0 .. 4 of all KINDS; TRAY 0 of UNIT 0 with 6 SLOTS, TRAY 1 of UNIT 4 with 6, TRAY 2 of UNIT 1 LOST. */
    private static DigHouse dig() {
        DigHouse x = new DigHouse();
        for (int kind = 0; kind < 5; kind++) {
            x.unit(kind, 10);
        }
        x.tray(0, 6);
        x.tray(4, 6);
        x.tray(1, 6);
        x.lose(2);
        return x;
    }

    private static long letters(String text) {
        long w = 0;
        for (char c : text.toCharArray()) {
            w = w << 8 | c;
        }
        return w;
    }

    private static void tray() {
        DigHouse x = new DigHouse();
        int number = 0;
        int[] most = {5, 3, 5, 1, 6};
        for (int kind = 0; kind < 5; kind++) {
            x.unit(kind, 0);
            for (int i = 0; i < most[kind]; i++) {
                due("tray of " + kind, x.tray(kind, i == 0 ? 0 : 40), number);
                number++;
                x.lose(number - 1);
            }
            due("one tray more of " + kind, x.tray(kind, 3), -3);
            due("status()", x.status(), -3);
        }
        due("FULL ahead of SIZE", x.tray(0, -1), -3);
        due("BAD ahead of FULL", x.tray(0, 41), -1);
        due("tray(5, 0)", x.tray(5, 0), -1);
        due("tray(-1, 0)", x.tray(-1, 0), -1);
        x.unit(0, 0);
        due("tray(5, -1)", x.tray(5, -1), -15);
        due("status()", x.status(), -15);
        due("count(9)", x.count(9), 1);
        due("tray(5, 41)", x.tray(5, 41), -1);
        due("tray(5, 2)", x.tray(5, 2), 20);
        due("bag(20, 0, 1)", x.bag(20, 0, 1), 21);
        for (int i = 0; i < 4; i++) {
            due("BAGS aside", x.tray(5, 40), 22 + i);
        }
        due("count(3)", x.count(3), 26);
        for (int i = 0; i < 34; i++) {
            due("bag " + i, x.bag(25, i, 0), 26 + i);
        }
        x.unit(0, 0);
        due("tray 60", x.tray(6, 0), -3);
        due("bag 60", x.bag(25, 39, 0), -3);
        due("bag 60, SIZE behind FULL", x.bag(25, 39, -1), -3);
        due("bag 60, BAD first", x.bag(25, 39, 41), -1);
    }

    private static void lose() {
        DigHouse x = dig();
        due("lose(3)", x.lose(3), -1);
        due("lose(-1)", x.lose(-1), -1);
        int acts = x.count(4);
        due("lose(2) again", x.lose(2), 0);
        due("left out", x.count(4), acts);
        due("status()", x.status(), 0);
        due("bag(0, 0, 2)", x.bag(0, 0, 2), 3);
        due("bag(3, 0, 2)", x.bag(3, 0, 2), 4);
        x.sherds(4, 0, 1, 7);
        due("total(0, 1)", x.total(0, 1), 7);
        due("lose(3)", x.lose(3), 1);
        due("a LOST BAG lies in its SLOT", x.kind(0, 0), 4);
        due("and has its number", x.bagged(0, 0), 3);
        due("what lay in it is in no UNIT", x.total(-5, 1), 0);
        due("but there", x.sherd(4, 0, 1), 7);
        due("join(4, 0, 4, 0)", x.join(4, 0, 4, 0), 1);
        due("a LOST BAG can move", x.move(0, 0, 1, 0), 4);
        due("kind(3, 0)", x.kind(3, 0), -11);
        due("a BAG that lay in a LOST one is not in what that lies in", x.move(1, 0, 4, 1), 4);
        due("undo()", x.undo() >= 0 ? 1 : 0, 1);
        for (int i = 0; i < 3; i++) {
            x.undo();
        }
        due("total(0, 1) with all back", x.total(0, 1), 7);
    }

    private static void coin() {
        DigHouse x = dig();
        due("coin(0, 0, -10000, 2100)", x.coin(0, 0, -10000, 2100), 1);
        due("coin(0, 1, 5, 5)", x.coin(0, 1, 5, 5), 1);
        due("coin(0, 2, -10001, 5)", x.coin(0, 2, -10001, 5), -1);
        due("coin(0, 2, 5, 2101)", x.coin(0, 2, 5, 2101), -1);
        due("coin(0, 2, 6, 5)", x.coin(0, 2, 6, 5), -1);
        due("coin(3, 2, 5, 6)", x.coin(3, 2, 5, 6), -1);
        due("coin(-1, 2, 5, 6)", x.coin(-1, 2, 5, 6), -1);
        due("coin(2, 9, 5, 6)", x.coin(2, 9, 5, 6), -11);
        due("coin(0, 6, 5, 6)", x.coin(0, 6, 5, 6), -12);
        due("coin(0, -1, 5, 6)", x.coin(0, -1, 5, 6), -12);
        due("coin(0, 0, 5, 6)", x.coin(0, 0, 5, 6), -2);
        due("status()", x.status(), -2);
        due("year(0, 0, false)", x.year(0, 0, false), 1);
        due("asked()", x.asked(), -10000);
        due("year(0, 0, true)", x.year(0, 0, true), 1);
        due("asked()", x.asked(), 2100);
        due("year(3, 0, true)", x.year(3, 0, true), -1);
        due("year(2, 0, true)", x.year(2, 0, true), -11);
        due("year(0, 6, true)", x.year(0, 6, true), -12);
        due("year(0, 2, true)", x.year(0, 2, true), -11);
        x.sherds(0, 3, 0, 1);
        due("year(0, 3, true)", x.year(0, 3, true), -13);
        due("asked() stays", x.asked(), 2100);
        due("status() is of ACTS", x.status(), 0);
        due("count(5)", x.count(5), 3);
        due("count(6)", x.count(6), 3);
        due("count(7)", x.count(7), 1);
    }

    private static void sample() {
        DigHouse x = dig();
        int half = Float.floatToRawIntBits(0.5f);
        due("sample(0, 0, half, -0)", x.sample(0, 0, half, 0x80000000), 1);
        due("sample(0, 1, NaNs)", x.sample(0, 1, 0x7f800001, 0xffffffff), 1);
        due("sample(0, 2, endless)", x.sample(0, 2, 0x7f800000, 0xff800000), 1);
        int[] bits = {half, 0x80000000, NAN, NAN, 0x7f800000, 0xff800000};
        for (int i = 0; i < 6; i++) {
            due("grain " + i, x.grain(0, i / 2, i % 2 == 1), 1);
            due("asked() " + i, x.asked(), bits[i]);
        }
        due("sample(0, 0, 0, 0)", x.sample(0, 0, 0, 0), -2);
        due("sample(3, 0, 0, 0)", x.sample(3, 0, 0, 0), -1);
        due("sample(2, 0, 0, 0)", x.sample(2, 0, 0, 0), -11);
        due("sample(0, 6, 0, 0)", x.sample(0, 6, 0, 0), -12);
        due("grain(3, 0, false)", x.grain(3, 0, false), -1);
        due("grain(2, 0, false)", x.grain(2, 0, false), -11);
        due("grain(0, 6, false)", x.grain(0, 6, false), -12);
        due("grain(0, 3, false)", x.grain(0, 3, false), -11);
        x.coin(0, 3, 1, 2);
        due("grain(0, 3, false)", x.grain(0, 3, false), -13);
        due("year(0, 0, false)", x.year(0, 0, false), -13);
    }

    private static void sherds() {
        DigHouse x = dig();
        due("sherds(0, 0, 7, 100)", x.sherds(0, 0, 7, 100), 100);
        due("sherds(0, 0, 7, 1)", x.sherds(0, 0, 7, 1), -2);
        due("sherds(0, 0, 7, -100)", x.sherds(0, 0, 7, -100), 0);
        due("sherds(0, 0, 7, -1)", x.sherds(0, 0, 7, -1), -2);
        due("SHERDS of which there are none", x.kind(0, 0), 0);
        due("sherds(0, 1, 3, 0)", x.sherds(0, 1, 3, 0), 0);
        due("kind(0, 1)", x.kind(0, 1), 0);
        due("sherds(0, 2, 3, -1)", x.sherds(0, 2, 3, -1), -2);
        due("kind(0, 2)", x.kind(0, 2), -5);
        due("sherds(0, 2, 8, 1)", x.sherds(0, 2, 8, 1), -12);
        due("sherds(0, 2, -1, 1)", x.sherds(0, 2, -1, 1), -12);
        due("sherds(0, 2, 8, 101)", x.sherds(0, 2, 8, 101), -1);
        due("sherds(0, 2, 0, -101)", x.sherds(0, 2, 0, -101), -1);
        due("sherds(3, 2, 0, 1)", x.sherds(3, 2, 0, 1), -1);
        due("sherds(2, 9, 9, 1)", x.sherds(2, 9, 9, 1), -11);
        due("sherds(0, 6, 0, 1)", x.sherds(0, 6, 0, 1), -12);
        x.coin(0, 3, 1, 2);
        due("CAST ahead of BEYOND", x.sherds(0, 3, 8, 1), -13);
        due("sherds(0, 1, 3, 9)", x.sherds(0, 1, 3, 9), 9);
        due("sherds(0, 1, 4, 2)", x.sherds(0, 1, 4, 2), 2);
        due("sherd(0, 1, 3)", x.sherd(0, 1, 3), 9);
        due("sherd(0, 1, 4)", x.sherd(0, 1, 4), 2);
        due("sherd(0, 1, 0)", x.sherd(0, 1, 0), 0);
        due("sherd(0, 1, 8)", x.sherd(0, 1, 8), -12);
        due("sherd(0, 1, -1)", x.sherd(0, 1, -1), -12);
        due("sherd(0, 2, 8)", x.sherd(0, 2, 8), -11);
        due("sherd(0, 3, 8)", x.sherd(0, 3, 8), -13);
        due("sherd(0, 6, 8)", x.sherd(0, 6, 8), -12);
        due("sherd(2, 0, 0)", x.sherd(2, 0, 0), -11);
        due("sherd(3, 0, 0)", x.sherd(3, 0, 0), -1);
        x.undo();
        due("sherd(0, 1, 4) after undo()", x.sherd(0, 1, 4), 0);
        due("sherd(0, 1, 3) after undo()", x.sherd(0, 1, 3), 9);
    }

    private static void note() {
        DigHouse x = dig();
        due("note ' ~'", x.note(0, 0, 0x2000_0000_0000_7e00L), 2);
        due("letter(0, 0, 0)", x.letter(0, 0, 0), 32);
        due("letter(0, 0, 1)", x.letter(0, 0, 1), 126);
        due("letter(0, 0, 2)", x.letter(0, 0, 2), -12);
        due("letter(0, 0, -1)", x.letter(0, 0, -1), -12);
        due("no letters", x.note(0, 0, 0), -1);
        due("byte 31", x.note(0, 0, 0x411f), -1);
        due("byte 127", x.note(0, 0, 0x7f41L), -1);
        due("byte 128", x.note(0, 0, 0x8041_4141_4141_4141L), -1);
        due("note 'ABCDEFGH'", x.note(0, 0, letters("ABCDEFGH")), 10);
        due("letter(0, 0, 2)", x.letter(0, 0, 2), 'A');
        due("letter(0, 0, 9)", x.letter(0, 0, 9), 'H');
        for (int i = 0; i < 3; i++) {
            due("note more", x.note(0, 0, letters("ABCDEFGH")), 18 + 8 * i);
        }
        due("note of 41", x.note(0, 0, letters("1234567")), -2);
        due("note of 40", x.note(0, 0, letters("123456")), 40);
        due("letter(0, 0, 39)", x.letter(0, 0, 39), '6');
        due("note of 41", x.note(0, 0, letters("1")), -2);
        due("note(3, ..)", x.note(3, 0, 65), -1);
        due("note(2, ..)", x.note(2, 7, 65), -11);
        due("note(0, 6, ..)", x.note(0, 6, 65), -12);
        x.coin(0, 1, 1, 2);
        due("note(0, 1, ..)", x.note(0, 1, 65), -13);
        due("letter(3, 0, 0)", x.letter(3, 0, 0), -1);
        due("letter(2, 0, 0)", x.letter(2, 0, 0), -11);
        due("letter(0, 6, 0)", x.letter(0, 6, 0), -12);
        due("letter(0, 5, 0)", x.letter(0, 5, 0), -11);
        due("letter(0, 1, 0)", x.letter(0, 1, 0), -13);
    }

    private static void bag() {
        DigHouse x = dig();
        due("bag(0, 0, 40)", x.bag(0, 0, 40), 3);
        due("bagged(0, 0)", x.bagged(0, 0), 3);
        due("bag(3, 39, 0)", x.bag(3, 39, 0), 4);
        due("bag(4, 0, 1)", x.bag(4, 0, 1), -12);
        due("bag(0, 0, 1)", x.bag(0, 0, 1), -2);
        due("bag(5, 0, 1)", x.bag(5, 0, 1), -1);
        due("bag(0, 1, 41)", x.bag(0, 1, 41), -1);
        due("SIZE ahead of NOTHING", x.bag(2, 0, -1), -15);
        due("SIZE ahead of BEYOND", x.bag(0, 6, -1), -15);
        due("SIZE ahead of STATE", x.bag(0, 0, -1), -15);
        due("bag(2, 0, 1)", x.bag(2, 0, 1), -11);
        due("bag(0, 6, 1)", x.bag(0, 6, 1), -12);
        due("count(3)", x.count(3), 5);
        due("bagged(5, 0)", x.bagged(5, 0), -1);
        due("bagged(2, 0)", x.bagged(2, 0), -11);
        due("bagged(0, 1)", x.bagged(0, 1), -11);
        due("bagged(0, 6)", x.bagged(0, 6), -12);
        x.note(0, 1, 65);
        due("bagged(0, 1)", x.bagged(0, 1), -13);
    }

    private static void take() {
        DigHouse x = dig();
        x.sherds(0, 0, 0, 3);
        x.coin(0, 1, 1, 2);
        x.sample(0, 2, 0, 0);
        x.note(0, 3, 65);
        x.bag(0, 4, 2);
        x.sherds(3, 0, 0, 5);
        due("total(0, 0)", x.total(0, 0), 8);
        for (int kind = 4; kind >= 0; kind--) {
            due("take of " + kind, x.take(0, kind), kind);
            due("status()", x.status(), 0);
            due("kind(0, " + kind + ")", x.kind(0, kind), -5);
            due("take again", x.take(0, kind), -11);
        }
        due("take(2, 0)", x.take(2, 0), -11);
        due("take(0, 6)", x.take(0, 6), -12);
        due("take(4, 0)", x.take(4, 0), -1);
        due("the BAG is a TRAY still", x.sherd(3, 0, 0), 5);
        due("in no UNIT", x.total(-5, 0), 0);
        due("count(3)", x.count(3), 4);
        for (int i = 0; i < 5; i++) {
            x.undo();
        }
        due("total(0, 0) with all back", x.total(0, 0), 8);
        due("bagged(0, 4)", x.bagged(0, 4), 3);
    }

    private static void move() {
        DigHouse x = dig();
        x.coin(0, 0, 1, 2);
        x.mark(0, 0, 2);
        due("move(0, 0, 1, 5)", x.move(0, 0, 1, 5), 1);
        due("kind(0, 0)", x.kind(0, 0), -5);
        due("its MARK", x.mark(1, 5, 2), 2);
        due("onto itself", x.move(1, 5, 1, 5), -2);
        due("move(3, 0, 0, 0)", x.move(3, 0, 0, 0), -1);
        due("move(0, 0, 3, 0)", x.move(0, 0, 3, 0), -1);
        due("first LOST", x.move(2, 0, 0, 9), -11);
        due("first BEYOND ahead of other LOST", x.move(0, 6, 2, 0), -12);
        due("EMPTY ahead of other BEYOND", x.move(0, 0, 0, 9), -11);
        due("other LOST", x.move(1, 5, 2, 9), -11);
        due("other BEYOND", x.move(1, 5, 0, -1), -12);
        x.bag(0, 0, 3);
        x.bag(3, 0, 3);
        x.bag(4, 0, 3);
        due("into itself", x.move(0, 0, 3, 1), -16);
        due("deeper", x.move(0, 0, 5, 2), -16);
        due("STORE ahead of STATE", x.move(0, 0, 4, 0), -16);
        due("BEYOND ahead of STORE", x.move(0, 0, 5, 3), -12);
        due("a BAG onto itself", x.move(0, 0, 0, 0), -2);
        due("count(10)", x.count(10), 3);
        due("move(4, 0, 1, 0)", x.move(4, 0, 1, 0), 4);
        due("not in it any more", x.move(0, 0, 5, 2), 4);
        due("now the other way", x.move(1, 0, 4, 1), -16);
        x.sherds(4, 2, 0, 9);
        due("IN UNIT 4", x.total(4, -5), 9);
        due("IN UNIT 0", x.total(0, -5), 0);
        due("status()", x.status(), 0);
    }

    private static void kind() {
        DigHouse x = dig();
        due("kind(0, 5)", x.kind(0, 5), -5);
        due("kind(0, 6)", x.kind(0, 6), -12);
        due("kind(0, -1)", x.kind(0, -1), -12);
        due("kind(2, 0)", x.kind(2, 0), -11);
        due("kind(3, 0)", x.kind(3, 0), -1);
        due("kind(-5, 0)", x.kind(-5, 0), -1);
        due("count(5)", x.count(5), 1);
        due("count(6)", x.count(6), 2);
    }

    private static void mark() {
        DigHouse x = dig();
        x.coin(0, 0, 1, 2);
        x.sample(0, 1, 0, 0);
        x.sherds(0, 2, 0, 0);
        int acts = x.count(4);
        due("mark(0, 0, 1)", x.mark(0, 0, 1), 0);
        due("mark(0, 0, 1)", x.mark(0, 0, 1), 1);
        due("mark(0, 1, 2)", x.mark(0, 1, 2), 0);
        due("mark(0, 1, 0)", x.mark(0, 1, 0), 2);
        due("all in THE BOOK", x.count(4), acts + 4);
        due("mark(0, 2, 1)", x.mark(0, 2, 1), -13);
        due("mark(0, 2, 3)", x.mark(0, 2, 3), -1);
        due("mark(0, 2, -1)", x.mark(0, 2, -1), -1);
        due("mark(3, 0, 0)", x.mark(3, 0, 0), -1);
        due("mark(2, 0, 0)", x.mark(2, 0, 0), -11);
        due("mark(0, 3, 0)", x.mark(0, 3, 0), -11);
        due("mark(0, 6, 0)", x.mark(0, 6, 0), -12);
    }

    private static void copy() {
        DigHouse x = dig();
        x.coin(0, 0, 1, 2);
        x.mark(0, 0, 1);
        x.sherds(0, 2, 0, 4);
        x.note(1, 1, 65);
        int acts = x.count(4);
        due("copy(0, 0, 3, 1, 0)", x.copy(0, 0, 3, 1, 0), 3);
        due("status()", x.status(), 0);
        due("kind(1, 0)", x.kind(1, 0), 1);
        due("EMPTY comes, too", x.kind(1, 1), -5);
        due("kind(1, 2)", x.kind(1, 2), 0);
        due("its MARK", x.mark(1, 0, 0), 1);
        due("which is its own", x.mark(0, 0, 1), 1);
        due("sherds(1, 2, 0, 1)", x.sherds(1, 2, 0, 1), 5);
        due("which are its own", x.sherd(0, 2, 0), 4);
        due("in THE BOOK", x.count(4), acts + 4);
        due("one behind the other", x.copy(0, 0, 5, 0, 1), 5);
        for (int slot = 0; slot < 6; slot++) {
            due("kind(0, " + slot + ")", x.kind(0, slot), 1);
        }
        x.undo();
        due("kind(0, 1) after undo()", x.kind(0, 1), -5);
        due("kind(0, 2) after undo()", x.kind(0, 2), 0);
    }

    private static void copyOfOne() {
        DigHouse x = dig();
        x.note(0, 0, 65);
        int acts = x.count(4);
        due("copy of one", x.copy(0, 0, 1, 1, 0), 1);
        due("in THE BOOK", x.count(4), acts + 1);
        due("onto itself", x.copy(0, 0, 1, 0, 0), 1);
        due("in THE BOOK", x.count(4), acts + 2);
        due("undo()", x.undo(), acts + 1);
        due("kind(1, 0)", x.kind(1, 0), 3);
    }

    private static void copyEnds() {
        DigHouse x = dig();
        x.coin(0, 0, 1, 2);
        x.bag(1, 3, 1);
        int acts = x.count(4);
        due("n = 0", x.copy(2, 9, 0, 2, 9), 0);
        due("status()", x.status(), 0);
        due("first LOST", x.copy(2, 9, 1, 0, 9), 0);
        due("status()", x.status(), -11);
        due("NOTHING ahead of BEYOND", x.copy(0, 9, 1, 2, 0), 0);
        due("status()", x.status(), -11);
        due("BEYOND ahead of STATE", x.copy(1, 3, 1, 0, -1), 0);
        due("status()", x.status(), -12);
        due("a BAG to copy", x.copy(1, 3, 1, 0, 0), 0);
        due("status()", x.status(), -2);
        due("a BAG in the way", x.copy(0, 0, 1, 1, 3), 0);
        due("status()", x.status(), -2);
        due("far out", x.copy(0, Integer.MAX_VALUE, 40, 1, Integer.MIN_VALUE), 0);
        due("status()", x.status(), -12);
        due("left out", x.count(4), acts);
        due("copy(0, 0, 40, 1, 0)", x.copy(0, 0, 40, 1, 0), 3);
        due("status()", x.status(), -2);
        due("copy(0, 4, 3, 1, 4)", x.copy(0, 4, 3, 1, 4), 2);
        due("status()", x.status(), -12);
        due("in THE BOOK", x.count(4), acts + 2);
        due("n = 41", x.copy(0, 0, 41, 1, 0), -1);
        due("n = -1", x.copy(0, 0, -1, 1, 0), -1);
        due("copy(4, ..)", x.copy(4, 0, 0, 1, 0), -1);
        due("copy(.., 4, ..)", x.copy(1, 0, 0, 4, 0), -1);
        due("status()", x.status(), -1);
        due("count(5)", x.count(5), 2);
        due("count(6)", x.count(6), 3);
    }

    private static void join() {
        DigHouse x = dig();
        x.sherds(0, 0, 0, 1);
        x.sherds(1, 0, 0, 0);
        x.coin(0, 1, 1, 2);
        due("join(0, 0, 1, 0)", x.join(0, 0, 1, 0), 1);
        due("join(1, 0, 0, 0)", x.join(1, 0, 0, 0), 2);
        due("join(0, 0, 0, 0)", x.join(0, 0, 0, 0), 3);
        due("join(3, 0, 0, 0)", x.join(3, 0, 0, 0), -1);
        due("join(0, 0, 3, 0)", x.join(0, 0, 3, 0), -1);
        due("first LOST", x.join(2, 0, 0, 1), -11);
        due("first EMPTY ahead of other CAST", x.join(0, 2, 0, 1), -11);
        due("first BEYOND ahead of other LOST", x.join(0, 6, 2, 0), -12);
        due("first CAST ahead of other LOST", x.join(0, 1, 2, 0), -13);
        due("other LOST", x.join(0, 0, 2, 0), -11);
        due("other BEYOND", x.join(0, 0, 0, 6), -12);
        due("other EMPTY", x.join(0, 0, 0, 2), -11);
        due("other CAST", x.join(0, 0, 0, 1), -13);
        due("joins(0, 4)", x.joins(0, 4), 2);
        due("joins(4, 0)", x.joins(4, 0), 2);
        due("joins(0, 0)", x.joins(0, 0), 1);
        due("joins(4, 4)", x.joins(4, 4), 0);
        due("joins(0, 5)", x.joins(0, 5), -1);
        due("joins(-5, 0)", x.joins(-5, 0), -1);
        x.take(1, 0);
        x.lose(0);
        due("as they were told", x.joins(0, 4), 2);
        x.undo();
        due("count(11)", x.count(11), 3);
        x.bag(1, 0, 1);
        x.sherds(3, 0, 0, 0);
        due("in a BAG", x.join(3, 0, 0, 0), 4);
        due("joins(0, 4)", x.joins(0, 4), 3);
        x.take(1, 0);
        due("in no UNIT", x.join(3, 0, 3, 0), 5);
        for (int i = 5; i < 80; i++) {
            due("join " + i, x.join(0, 0, 3, 0), i + 1);
        }
        due("join 80", x.join(0, 0, 3, 0), -3);
        due("FULL behind FINDINGS", x.join(0, 0, 0, 1), -13);
        due("joins(0, 0)", x.joins(0, 0), 1);
        due("count(11)", x.count(11), 80);
    }

    private static void total() {
        DigHouse x = dig();
        x.sherds(0, 0, 0, 10);
        x.sherds(0, 0, 1, 20);
        x.sherds(0, 5, 0, 3);
        x.sherds(1, 0, 0, 4);
        x.bag(1, 1, 2);
        x.bag(3, 1, 2);
        x.sherds(4, 1, 7, 5);
        x.coin(4, 0, 1, 2);
        int[][] due = {{0, 0, 13}, {0, 1, 20}, {0, -5, 33}, {4, 0, 4}, {4, 7, 5}, {4, -5, 9}, {-5, 0, 17}, {-5, -5, 42}, {1, -5, 0}};
        for (int[] d : due) {
            due("total(" + d[0] + ", " + d[1] + ")", x.total(d[0], d[1]), d[2]);
        }
        due("total(5, 0)", x.total(5, 0), -1);
        due("total(-1, 0)", x.total(-1, 0), -1);
        due("total(0, 8)", x.total(0, 8), -1);
        due("total(0, -1)", x.total(0, -1), -1);
        due("share(0, 0)", x.share(0, 0), 393);
        due("share(4, 7)", x.share(4, 7), 555);
        due("share(-5, 0)", x.share(-5, 0), 404);
        due("share(-5, 2)", x.share(-5, 2), 0);
        due("share(1, 0)", x.share(1, 0), -14);
        due("count(8)", x.count(8), 1);
        due("share(1, -5)", x.share(1, -5), -1);
        due("share(1, 8)", x.share(1, 8), -1);
        due("share(5, 0)", x.share(5, 0), -1);
        due("status() is of ACTS", x.status(), 0);
        x.lose(1);
        due("total(-5, -5) without a LOST TRAY", x.total(-5, -5), 33);
        due("share(4, 7)", x.share(4, 7), -14);
    }

    private static void totalOfAll() {
        DigHouse x = new DigHouse();
        for (int u = 0; u < 10; u++) {
            x.unit(4, 0);
            for (int i = 0; i < 6; i++) {
                x.tray(u, 40);
            }
        }
        for (int type = 0; type < 8; type++) {
            x.sherds(0, 0, type, 100);
        }
        x.copy(0, 0, 39, 0, 1);
        for (int t = 1; t < 60; t++) {
            due("copy to " + t, x.copy(0, 0, 40, t, 0), 40);
        }
        due("total(-5, -5)", x.total(-5, -5), 1920000);
        due("share(-5, 3)", x.share(-5, 3), 125);
        due("total(9, 3)", x.total(9, 3), 24000);
    }

    public static void main(String[] args) {
        tray();
        lose();
        coin();
        sample();
        sherds();
        note();
        bag();
        take();
        move();
        kind();
        mark();
        copy();
        copyOfOne();
        copyEnds();
        join();
        total();
        totalOfAll();
        CHECK.end();
    }
}
