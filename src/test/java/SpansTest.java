/** Promises 37 to 40: span, drawn, quarrel, because. */
public final class SpansTest {
    private static final Check CHECK = new Check("SpansTest");

    private static void due(String call, long got, long want) {
        CHECK.due(call, got, want);
    }

    private static void dueDrawn(DigHouse x, String when, int unit, int begin, int end) {
        int[] due = {begin, end, begin > end ? 1 : 0};
        for (int what = 0; what < 3; what++) {
            String call = when + " drawn(" + unit + ", " + what + ")";
            due(call, x.drawn(unit, what), 1);
            due(call + " asked()", x.asked(), due[what]);
        }
    }

    private static void dueBecause(DigHouse x, String when, int... parts) {
        due(when + " quarrel()", x.quarrel(), parts.length == 0 ? 0 : parts.length - 7);
        for (int i = 0; i < parts.length; i++) {
            due(when + " because(" + i + ")", x.because(i), 1);
            due(when + " because(" + i + ") asked()", x.asked(), parts[i]);
        }
        int asked = x.asked();
        due(when + " because(" + parts.length + ")", x.because(parts.length), -5);
        due(when + " because(-1)", x.because(-1), -5);
        due(when + " because(far)", x.because(Integer.MAX_VALUE), -5);
        due(when + " asked() stays", x.asked(), asked);
    }

    private static int bits(float f) {
        return Float.floatToRawIntBits(f);
    }

    private static void span() {
        DigHouse x = new DigHouse();
        x.unit(0, 0);
        dueDrawn(x, "new", 0, -10000, 2100);
        due("span(0, 100, 200)", x.span(0, 100, 200), 1);
        dueDrawn(x, "100 .. 200", 0, 100, 200);
        due("span(0, 5, 5)", x.span(0, 5, 5), 1);
        due("span(0, 5, 5) again", x.span(0, 5, 5), 1);
        due("count(4)", x.count(4), 4);
        due("span(0, 6, 5)", x.span(0, 6, 5), -1);
        due("span(0, -10001, 5)", x.span(0, -10001, 5), -1);
        due("span(0, 5, 2101)", x.span(0, 5, 2101), -1);
        due("span(1, 5, 6)", x.span(1, 5, 6), -1);
        due("span(-1, 5, 6)", x.span(-1, 5, 6), -1);
        due("status()", x.status(), -1);
        dueDrawn(x, "5 .. 5", 0, 5, 5);
        due("span(0, -10000, 2100)", x.span(0, -10000, 2100), 1);
        dueDrawn(x, "all", 0, -10000, 2100);
        due("drawn(1, 0)", x.drawn(1, 0), -1);
        due("drawn(-1, 0)", x.drawn(-1, 0), -1);
        due("drawn(0, 3)", x.drawn(0, 3), -1);
        due("drawn(0, -1)", x.drawn(0, -1), -1);
        x.undo();
        dueDrawn(x, "undo()", 0, 5, 5);
    }

    private static void coins() {
        DigHouse x = new DigHouse();
        x.unit(0, 0);
        x.unit(4, 0);
        x.tray(0, 5);
        x.tray(1, 5);
        x.coin(0, 0, 100, 200);
        x.coin(0, 1, 90, 110);
        x.coin(1, 0, 100, 200);
        x.coin(1, 1, 90, 110);
        dueDrawn(x, "a LAYER's", 0, 100, 2100);
        dueDrawn(x, "a BURIAL's", 1, 100, 170);
        x.mark(1, 0, 1);
        dueDrawn(x, "INTRUSIVE", 1, 90, 170);
        x.mark(1, 1, 2);
        dueDrawn(x, "RESIDUAL", 1, 90, 260);
        x.bag(0, 2, 2);
        x.coin(2, 1, 500, 600);
        dueDrawn(x, "in a BAG", 0, 500, 2100);
        x.move(0, 2, 1, 2);
        dueDrawn(x, "moved", 0, 100, 2100);
        dueDrawn(x, "moved", 1, 500, 260);
        x.take(1, 2);
        dueDrawn(x, "taken", 1, 90, 260);
        x.lose(0);
        dueDrawn(x, "LOST", 0, -10000, 2100);
    }

    private static void dueSample(int kind, int n, float year, float spread, int mark, int begin, int end) {
        DigHouse x = new DigHouse();
        x.unit(kind, n);
        x.tray(0, 1);
        x.sample(0, 0, bits(year), bits(spread));
        x.mark(0, 0, mark);
        dueDrawn(x, "sample " + kind + " " + n + " " + year + " " + spread + " " + mark, 0, begin, end);
    }

    private static void samples() {
        dueSample(0, 7, 1000, 10, 0, 983, 1017);
        dueSample(0, 57, 1000.25f, 10, 0, 983, 1018);
        dueSample(0, 50, 1000.25f, 0, 0, 1000, 1001);
        dueSample(0, 50, -1000.25f, -0f, 0, -1001, -1000);
        dueSample(1, 7, 1000, 10, 0, 970, 1030);
        dueSample(2, 7, 1000, 10, 0, 983, 1017);
        dueSample(3, 7, 1000, 10, 0, 973, 1027);
        dueSample(4, 7, 1000, 10, 0, 985, 1015);
        dueSample(4, 7, 1000, 10, 1, -10000, 1015);
        dueSample(4, 7, 1000, 10, 2, 985, 2100);
        dueSample(4, 7, 1000, -10, 0, -10000, 2100);
        dueSample(4, 7, 1000, -1e-45f, 0, -10000, 2100);
        dueSample(4, 7, Float.NaN, 1, 0, -10000, 2100);
        dueSample(4, 7, 1, Float.NaN, 0, -10000, 2100);
        dueSample(4, 7, Float.POSITIVE_INFINITY, 1, 0, -10000, 2100);
        dueSample(4, 7, 1, Float.POSITIVE_INFINITY, 0, -10000, 2100);
        dueSample(0, 0, 1e-45f, 0, 0, 0, 1);
        dueSample(0, 0, -1e-45f, 0, 0, -1, 0);
        dueSample(0, 0, 1.1754944e-38f, 0, 0, 0, 1);
        dueSample(0, 0, 1e-45f, 1e-45f, 0, 0, 1);
        dueSample(0, 1, 1e-45f, 0, 0, -1, 1);
        dueSample(0, 0, 1e30f, 0, 0, Integer.MAX_VALUE, 2100);
        dueSample(0, 0, -1e30f, 0, 0, -10000, Integer.MIN_VALUE);
        dueSample(0, 0, -Float.MAX_VALUE, Float.MAX_VALUE, 0, -10000, 0);
        dueSample(0, 0, Float.MAX_VALUE, Float.MAX_VALUE, 0, 0, 2100);
        dueSample(0, 0, 16777216, 0, 0, 16777216, 2100);
        dueSample(0, 1, 16777216, 0, 0, 16777215, 2100);
        dueSample(0, 0, 8388607.5f, 0, 0, 8388607, 2100);
        dueSample(0, 0, -8388607.5f, 0, 0, -8388608 > -10000 ? 0 : -10000, -8388607);
        dueSample(0, 0, 2147483520f, 0, 0, 2147483520, 2100);
        dueSample(0, 0, 2147483648f, 0, 0, Integer.MAX_VALUE, 2100);
        dueSample(0, 0, -2147483648f, 0, 0, -10000, Integer.MIN_VALUE);
        // 16777217 is no float: the spread and the margin make 16777216.
        dueSample(0, 1, 16777216, 16777216, 0, 0, 2100);
    }

    private static void drawnTogether() {
        DigHouse x = new DigHouse();
        for (int u = 0; u < 5; u++) {
            x.unit(0, 0);
        }
        x.span(0, 10, 900);
        x.span(1, 100, 800);
        x.span(2, 50, 700);
        x.span(3, 200, 300);
        x.above(2, 1);
        x.above(1, 0);
        dueDrawn(x, "row", 0, 10, 700);
        dueDrawn(x, "row", 1, 100, 700);
        dueDrawn(x, "row", 2, 100, 700);
        x.bond(3, 0);
        dueDrawn(x, "bond", 0, 200, 300);
        dueDrawn(x, "bond", 3, 200, 300);
        dueDrawn(x, "bond", 1, 200, 700);
        dueDrawn(x, "bond", 2, 200, 700);
        dueDrawn(x, "bond", 4, -10000, 2100);
        dueBecause(x, "no quarrel");
    }

    private static void quarrelOfOne() {
        DigHouse x = new DigHouse();
        x.unit(4, 0);
        x.unit(4, 0);
        x.unit(4, 0);
        x.tray(2, 3);
        x.tray(1, 3);
        dueBecause(x, "nothing yet");
        x.coin(0, 0, 300, 310);
        x.coin(0, 1, 100, 110);
        dueBecause(x, "in one UNIT", 2, 300, 0, 0, 2, 170, 0, 1);
        x.coin(0, 2, 300, 310);
        dueBecause(x, "the first of like ones", 2, 300, 0, 0, 2, 170, 0, 1);
        x.span(2, 300, 2100);
        dueBecause(x, "span() first", 2, 300, -5, -5, 2, 170, 0, 1);
        x.bond(1, 2);
        x.span(1, -10000, 170);
        dueBecause(x, "by UNITS", 2, 300, -5, -5, 1, 170, -5, -5);
        x.coin(1, 1, 300, 300);
        dueBecause(x, "by UNITS ahead of span()", 1, 300, 1, 1, 1, 170, -5, -5);
        x.unit(0, 0);
        x.span(0, 500, 500);
        x.above(3, 0);
        x.span(3, 10, 20);
        dueBecause(x, "the shorter row", 1, 300, 1, 1, 1, 170, -5, -5);
        x.undo();
        dueBecause(x, "as it is now", 1, 300, 1, 1, 1, 170, -5, -5);
        x.lose(0);
        x.lose(1);
        x.span(1, -10000, 300);
        dueBecause(x, "gone");
    }

    private static void quarrelByRows() {
        DigHouse x = new DigHouse();
        for (int u = 0; u < 6; u++) {
            x.unit(0, 0);
        }
        x.above(5, 3);
        x.above(3, 1);
        x.above(5, 2);
        x.above(2, 1);
        x.above(4, 3);
        x.above(4, 0);
        x.span(1, 500, 600);
        x.span(5, 100, 200);
        dueBecause(x, "row of two, the first", 1, 500, -5, -5, 5, 200, -5, -5, 0, 1);
        x.span(4, 100, 200);
        dueBecause(x, "the least Y", 1, 500, -5, -5, 4, 200, -5, -5, 4, 1);
        x.span(0, 201, 600);
        dueBecause(x, "the shorter row", 0, 201, -5, -5, 4, 200, -5, -5, 5);
        x.above(5, 3);
        x.span(3, 400, 600);
        dueBecause(x, "the least X", 0, 201, -5, -5, 4, 200, -5, -5, 5);
        x.span(0, 200, 600);
        dueBecause(x, "f above t", 3, 400, -5, -5, 4, 200, -5, -5, 4);
        x.span(4, -10000, 2100);
        dueBecause(x, "of two like RELATIONS the first", 3, 400, -5, -5, 5, 200, -5, -5, 0);
    }

    private static void quarrelByOtherBlocks() {
        DigHouse x = new DigHouse();
        x.unit(0, 0);
        x.unit(0, 0);
        x.unit(0, 0);
        x.span(1, 50, 100);
        x.span(2, 500, 600);
        dueBecause(x, "apart");
        x.bond(1, 2);
        dueBecause(x, "one", 2, 500, -5, -5, 1, 100, -5, -5);
        x.undo();
        dueBecause(x, "apart again");
        x.bond(0, 1);
        dueBecause(x, "others are one");
        x.bond(2, 1);
        dueBecause(x, "all are one", 2, 500, -5, -5, 1, 100, -5, -5);
    }

    private static void orderOfFinds() {
        DigHouse x = new DigHouse();
        x.unit(4, 0);
        x.unit(0, 0);
        x.tray(0, 4);
        x.tray(1, 1);
        x.bag(0, 3, 2);
        x.tray(0, 4);
        x.coin(3, 0, 300, 310);
        x.coin(3, 1, 40, 40);
        dueBecause(x, "TRAY 3", 0, 300, 3, 0, 0, 100, 3, 1);
        x.coin(2, 1, 300, 300);
        x.coin(2, 0, 40, 40);
        dueBecause(x, "BAGS by their numbers", 0, 300, 2, 1, 0, 100, 2, 0);
        x.coin(0, 2, 300, 300);
        dueBecause(x, "TRAY 0", 0, 300, 0, 2, 0, 100, 2, 0);
        x.coin(0, 1, 300, 300);
        dueBecause(x, "then by SLOTS", 0, 300, 0, 1, 0, 100, 2, 0);
        x.mark(0, 1, 1);
        dueBecause(x, "not by INTRUSIVE ones", 0, 300, 0, 2, 0, 100, 2, 0);
        x.mark(2, 0, 2);
        dueBecause(x, "nor by RESIDUAL ones", 0, 300, 0, 2, 0, 100, 3, 1);
    }

    public static void main(String[] args) {
        span();
        coins();
        samples();
        drawnTogether();
        quarrelOfOne();
        quarrelByRows();
        quarrelByOtherBlocks();
        orderOfFinds();
        CHECK.end();
    }
}
