/** The boundary cases of promises 37 to 40 and of '4 SPANS', sentence by sentence. */
public final class EdgesOfSpansTest {
    private static final int LEAST = Integer.MIN_VALUE, MOST = Integer.MAX_VALUE;

    private static int bits(float f) {
        return Float.floatToRawIntBits(f);
    }

    private static void drawn(Dig d, int unit, int begin, int end) {
        d.told(begin, "drawn", unit, 0).told(end, "drawn", unit, 1).told(begin > end ? 1 : 0, "drawn", unit, 2);
    }

    /** What because() tells of 0, 1, ..; without parts there is no QUARREL. */
    private static void because(Dig d, int... parts) {
        d.due(parts.length == 0 ? 0 : parts.length - 7, "quarrel");
        for (int i = 0; i < parts.length; i++) {
            d.told(parts[i], "because", i);
        }
        for (int far : new int[] {parts.length, -1, LEAST, MOST}) {
            d.due(Dig.NONE, "because", far);
        }
    }

    private static void span() {
        Dig d = new Dig("37: What span() tells of a UNIT is first .. last: 1. BAD: also last is below first");
        d.layers(2);
        for (int bad : new int[] {-1, 2, -5, LEAST, MOST}) {
            d.refuses(Dig.BAD, "span", bad, 1, 2);
        }
        int[][] bad = {{6, 5}, {-10001, 5}, {5, 2101}, {2101, 2101}, {-10001, -10001}, {2100, -10000}, {LEAST, 0}, {0, MOST}, {MOST, LEAST}};
        for (int[] years : bad) {
            d.refuses(Dig.BAD, "span", 0, years[0], years[1]);
        }
        drawn(d, 0, -10000, 2100);
        for (int[] years : new int[][] {{5, 5}, {-10000, -10000}, {2100, 2100}, {-10000, 2100}, {-1, 0}}) {
            d.due(1, "span", 0, years[0], years[1]);
            drawn(d, 0, years[0], years[1]);
        }
        d.due(1, "span", 0, -1, 0).due(8, "count", 4).due(7, "undo");
        drawn(d, 0, -1, 0);
        drawn(d, 1, -10000, 2100);
    }

    private static void drawnBad() {
        Dig d = new Dig("38: 0 its beginning, 1 its end, 2 whether it is EMPTY (1, 0), told by asked(): 1. BAD");
        d.layers(2).does("span", 0, 100, 200).told(100, "drawn", 0, 0);
        for (int bad : new int[] {-1, 2, -5, LEAST, MOST}) {
            d.refuses(Dig.BAD, "drawn", bad, 0);
        }
        for (int bad : new int[] {-1, 3, -5, LEAST, MOST}) {
            d.refuses(Dig.BAD, "drawn", 0, bad);
        }
        d.due(100, "asked").does("span", 1, 200, 200).does("above", 0, 1);
        drawn(d, 0, 200, 200);
        d.does("span", 1, 201, 300);
        drawn(d, 0, 201, 200);
        drawn(d, 1, 201, 200);
    }

    private static void together() {
        Dig d = new Dig("from the greatest bound from below of its UNITS and of all BLOCKS that it is LATER than, to the least from above ..");
        d.layers(5).does("span", 0, 10, 50).does("span", 1, 20, 60).does("span", 2, 5, 55).does("span", 3, 30, 40);
        d.does("above", 0, 1).does("above", 1, 2).does("above", 2, 4);
        drawn(d, 0, 20, 50);
        drawn(d, 1, 20, 50);
        drawn(d, 2, 5, 50);
        drawn(d, 4, -10000, 50);
        drawn(d, 3, 30, 40);
        d.does("bond", 4, 3);
        drawn(d, 4, 30, 40);
        drawn(d, 3, 30, 40);
        drawn(d, 0, 30, 50);
        d.does("undo");
        drawn(d, 0, 20, 50);
    }

    private static void coins() {
        for (int kind = 0; kind < 5; kind++) {
            Dig d = new Dig("of each COIN, from below its first year, and, if BOTH is 1, from above its second one and 60");
            d.units(kind).does("tray", 0, 4).does("coin", 0, 0, 2041, 2100);
            drawn(d, 0, 2041, 2100);
            d.does("coin", 0, 1, 1900, 2039);
            drawn(d, 0, 2041, kind == 4 ? 2099 : 2100);
            d.does("coin", 0, 2, 1, 1);
            drawn(d, 0, 2041, kind == 4 ? 61 : 2100);
            d.does("take", 0, 2).does("take", 0, 0);
            drawn(d, 0, 1900, kind == 4 ? 2099 : 2100);
        }
    }

    private static void marks() {
        Dig d = new Dig("INTRUSIVE ones bound nothing from below, RESIDUAL ones nothing from above");
        d.units(4).does("tray", 0, 2).does("coin", 0, 0, 100, 110);
        int[][] due = {{100, 170}, {-10000, 170}, {100, 2100}};
        for (int m : new int[] {1, 2, 0}) {
            d.does("mark", 0, 0, m);
            drawn(d, 0, due[m][0], due[m][1]);
        }
        d.does("take", 0, 0).does("sample", 0, 1, bits(500), bits(20));
        due = new int[][] {{475, 525}, {-10000, 525}, {475, 2100}};
        for (int m : new int[] {1, 2, 0}) {
            d.does("mark", 0, 1, m);
            drawn(d, 0, due[m][0], due[m][1]);
        }
        d.does("undo");
        drawn(d, 0, 475, 2100);
    }

    private static void sample(String sentence, int kind, int n, float year, float spread, int begin, int end) {
        Dig d = new Dig(sentence + " " + year + ", " + spread);
        d.does("unit", kind, n).does("tray", 0, 1).does("sample", 0, 0, bits(year), bits(spread));
        drawn(d, 0, begin, end);
    }

    private static void samples() {
        String numbers = "whose year and spread are numbers, not endless, and the spread not below 0";
        float endless = Float.POSITIVE_INFINITY;
        for (float no : new float[] {Float.NaN, endless, -endless}) {
            sample(numbers, 0, 0, no, 1, -10000, 2100);
            sample(numbers, 0, 0, 1, no, -10000, 2100);
            sample(numbers, 0, 0, no, no, -10000, 2100);
        }
        sample(numbers, 0, 0, 500, -1, -10000, 2100);
        sample(numbers, 0, 0, 500, -Float.MIN_VALUE, -10000, 2100);
        sample(numbers, 0, 0, 500, -Float.MAX_VALUE, -10000, 2100);
        sample(numbers, 0, 0, 500, -0f, 500, 500);
        sample(numbers, 0, 0, 500, 0, 500, 500);
        sample(numbers, 0, 0, 500, Float.MIN_VALUE, 500, 500);
        sample(numbers, 0, 0, -0f, -0f, 0, 0);
        String margin = "with w = spread + MARGIN";
        sample(margin, 0, 49, 500, 1, 450, 550);
        sample(margin, 0, 50, 500, 1, 499, 501);
        sample(margin, 1, 49, 500, 1, 479, 521);
        sample(margin, 2, 999, 500, 1, 450, 550);
        sample(margin, 3, 999, 500, 1, 440, 560);
        sample(margin, 4, 999, 500, 1, 494, 506);
    }

    private static void rounding() {
        String rounded = "from below year - w, rounded down, from above year + w, rounded up (as floats; then as Java casts to int)";
        sample(rounded, 0, 0, 500.25f, 0, 500, 501);
        sample(rounded, 0, 0, 500.25f, 0.25f, 500, 501);
        sample(rounded, 0, 0, 500.25f, 0.5f, 499, 501);
        sample(rounded, 0, 0, -500.25f, 0, -501, -500);
        sample(rounded, 0, 0, -0.5f, 0, -1, 0);
        sample(rounded, 0, 0, 0.5f, 0, 0, 1);
        sample(rounded, 0, 0, Float.MIN_VALUE, 0, 0, 1);
        sample(rounded, 0, 0, -Float.MIN_VALUE, 0, -1, 0);
        sample(rounded, 0, 0, 0, Float.MIN_VALUE, -1, 1);
        sample(rounded, 0, 0, Float.MIN_NORMAL, 0, 0, 1);
        sample(rounded, 0, 0, 2 * Float.MIN_NORMAL, 1.5f * Float.MIN_NORMAL, 0, 1);
        sample(rounded, 0, 0, Float.MIN_NORMAL, 0.75f * Float.MIN_NORMAL, 0, 1);
        sample(rounded, 0, 0, Float.MIN_NORMAL, 1.25f * Float.MIN_NORMAL, -1, 1);
        sample(rounded, 0, 0, 2 * Float.MIN_VALUE, Float.MIN_VALUE, 0, 1);
        sample(rounded, 0, 0, Float.MIN_VALUE, 2 * Float.MIN_VALUE, -1, 1);
        sample(rounded, 0, 0, -Float.MIN_VALUE, Float.MIN_VALUE, -1, 0);
        sample(rounded, 0, 0, 8388607.5f, 0, 8388607, 2100);
        sample(rounded, 0, 0, -8388607.5f, 0, -10000, -8388607);
        sample(rounded, 0, 0, 16777216f, 0, 16777216, 2100);
        // 16777216 + 1 and 33554432 + 3 are no floats.
        sample(rounded, 0, 1, 16777216f, 16777216f, 0, 2100);
        sample(rounded, 0, 3, 33554432f, 33554432f, -4, 2100);
        sample(rounded, 0, 1, 16777216f, 0, 16777215, 2100);
        sample(rounded, 0, 1, -16777216f, 0, -10000, -16777215);
        sample(rounded, 0, 0, 2147483520f, 0, 2147483520, 2100);
        sample(rounded, 0, 0, 2147483648f, 0, MOST, 2100);
        sample(rounded, 0, 0, -2147483648f, 0, -10000, LEAST);
        sample(rounded, 0, 0, -2147483904f, 0, -10000, LEAST);
        sample(rounded, 0, 0, Float.MAX_VALUE, 0, MOST, 2100);
        sample(rounded, 0, 0, -Float.MAX_VALUE, 0, -10000, LEAST);
        sample(rounded, 0, 0, Float.MAX_VALUE, Float.MAX_VALUE, 0, 2100);
        sample(rounded, 0, 0, -Float.MAX_VALUE, Float.MAX_VALUE, -10000, 0);
        sample(rounded, 4, 0, 0, Float.MAX_VALUE, -10000, 2100);
    }

    private static void allOfOne() {
        Dig d = new Dig("A UNIT has BOUNDS: those told by span(); of each COIN in it; of each SAMPLE in it");
        d.units(4).does("tray", 0, 3).does("bag", 0, 2, 2).does("span", 0, 100, 900);
        d.does("coin", 0, 0, 90, 830).does("sample", 1, 1, bits(600), bits(300));
        drawn(d, 0, 295, 890);
        d.does("span", 0, 296, 889);
        drawn(d, 0, 296, 889);
        d.does("coin", 1, 0, 297, 828);
        drawn(d, 0, 297, 888);
        d.does("lose", 1);
        drawn(d, 0, 296, 889);
    }

    private static void othersBoundNothing() {
        for (int kind = 0; kind < 5; kind++) {
            Dig d = new Dig("BOUNDS: of each COIN, of each SAMPLE; SHERDS, NOTES, BAGS bound nothing");
            d.units(kind).does("tray", 0, 4).does("sherds", 0, 0, 0, 1).does("sherds", 0, 0, 1, 100).does("note", 0, 1, 0x4142);
            d.does("note", 0, 2, 65).does("bag", 0, 3, 2).does("note", 1, 0, 0x7e7e).does("sherds", 1, 1, 7, 0);
            drawn(d, 0, -10000, 2100);
            because(d);
        }
    }

    private static void noQuarrel() {
        Dig d = new Dig("39, 40: 0: there is none; NONE: there is no QUARREL");
        because(d);
        d.layers(3).does("span", 0, 100, 200).does("span", 1, 200, 300).does("span", 2, 500, 600).does("above", 0, 1);
        because(d);
        d.due(0, "asked").does("span", 1, 201, 300);
        because(d, 1, 201, -5, -5, 0, 200, -5, -5, 0);
        d.does("undo").due(0, "asked").does("above", 2, 1);
        because(d);
    }

    private static void quarrelOfOne() {
        Dig d = new Dig("39: how many RELATIONS its row has, and 1: X and Y one");
        d.units(4, 4).does("tray", 1, 2).does("span", 1, 5, 10).does("coin", 0, 1, 11, 11);
        because(d, 1, 11, 0, 1, 1, 10, -5, -5);
        d.does("span", 1, 11, 2100);
        because(d);
        d.does("coin", 0, 0, 72, 73);
        because(d, 1, 72, 0, 0, 1, 71, 0, 1);
        d.does("bond", 0, 1).does("span", 0, 72, 72);
        because(d, 0, 72, -5, -5, 1, 71, 0, 1);
        d.does("span", 0, 1, 71);
        because(d, 1, 72, 0, 0, 0, 71, -5, -5);
    }

    private static void quarrelOfOthers() {
        Dig d = new Dig("X and Y one, or Y LATER than X: BLOCKS as they are now");
        d.layers(4).does("span", 1, 50, 100).does("span", 2, 500, 600);
        because(d);
        d.does("bond", 1, 2);
        because(d, 2, 500, -5, -5, 1, 100, -5, -5);
        d.does("undo");
        because(d);
        d.does("bond", 0, 1);
        because(d);
        d.does("above", 2, 0);
        because(d);
        d.does("undo").does("above", 0, 3).does("above", 3, 2);
        because(d, 2, 500, -5, -5, 1, 100, -5, -5, 0, 1);
        d.does("undo");
        because(d);
        d.does("undo").does("undo").does("bond", 1, 2);
        because(d, 2, 500, -5, -5, 1, 100, -5, -5);
        // From the one BLOCK to the other without a question between.
        d.does("undo").does("bond", 0, 1);
        because(d);
    }

    private static void leastRow() {
        Dig d = new Dig("of all such BLOCKS X, Y those with the least such row; of several the least X, then the least Y (by their names)");
        d.layers(6).does("above", 5, 3).does("above", 3, 1).does("above", 4, 2).does("above", 2, 0).does("above", 4, 3);
        d.does("span", 1, 500, 600).does("span", 5, 100, 200);
        because(d, 1, 500, -5, -5, 5, 200, -5, -5, 0, 1);
        d.does("span", 4, 100, 300);
        because(d, 1, 500, -5, -5, 4, 300, -5, -5, 4, 1);
        d.does("span", 0, 301, 600);
        because(d, 0, 301, -5, -5, 4, 300, -5, -5, 2, 3);
        d.does("span", 3, 400, 600);
        because(d, 3, 400, -5, -5, 4, 300, -5, -5, 4);
        d.does("span", 2, 302, 600);
        because(d, 2, 302, -5, -5, 4, 300, -5, -5, 2);
        d.does("undo").does("span", 4, -10000, 2100);
        because(d, 3, 400, -5, -5, 5, 200, -5, -5, 0);
    }

    private static void noRowIsLeast() {
        Dig d = new Dig("those with the least such row: of none at all ahead of one of one, whatever the names");
        d.units(0, 0, 4, 4).does("above", 1, 0).does("span", 0, 500, 600).does("span", 1, 100, 200);
        because(d, 0, 500, -5, -5, 1, 200, -5, -5, 0);
        d.does("tray", 3, 2).does("coin", 0, 0, 300, 310).does("coin", 0, 1, 1, 2);
        because(d, 3, 300, 0, 0, 3, 62, 0, 1);
        d.does("span", 2, 700, 700).does("bond", 2, 3);
        because(d, 2, 700, -5, -5, 3, 62, 0, 1);
        d.does("undo").does("undo").does("undo");
        because(d, 0, 500, -5, -5, 1, 200, -5, -5, 0);
    }

    private static void apart() {
        Dig d = new Dig("X and Y one, or Y LATER than X: not of BLOCKS that no row leads to, however long the rows of others");
        d.layers(14);
        for (int u = 0; u < 12; u++) {
            d.does("above", u, u + 1);
        }
        d.does("span", 13, 500, 600);
        for (int u = 0; u <= 12; u++) {
            d.does("span", u, 100, 200).due(0, "quarrel");
        }
        because(d);
        d.does("above", 5, 13);
        because(d, 13, 500, -5, -5, 5, 200, -5, -5, 12);
        d.does("undo").does("above", 13, 0);
        because(d);
    }

    private static void firstRow() {
        Dig d = new Dig("the shortest row of RELATIONS from Y to X (as for THE RING)");
        d.layers(6).does("above", 0, 1).does("above", 1, 2).does("above", 2, 5).does("above", 0, 3).does("above", 0, 4).does("above", 4, 5);
        d.does("above", 3, 5).does("above", 3, 5).does("span", 5, 500, 600).does("span", 0, 100, 200);
        because(d, 5, 500, -5, -5, 0, 200, -5, -5, 3, 6);
        d.does("bond", 1, 4);
        because(d, 5, 500, -5, -5, 0, 200, -5, -5, 0, 5);
        d.does("above", 0, 5).does("above", 0, 5);
        because(d, 5, 500, -5, -5, 0, 200, -5, -5, 8);
    }

    private static void blocksByNames() {
        Dig d = new Dig("the least X, then the least Y (by their names)");
        d.layers(6).does("bond", 5, 0).does("bond", 4, 1).does("above", 2, 5).does("above", 3, 4);
        d.does("span", 5, 500, 600).does("span", 4, 500, 600).does("span", 2, 100, 200).does("span", 3, 100, 200);
        because(d, 5, 500, -5, -5, 2, 200, -5, -5, 0);
        d.does("above", 3, 0).does("span", 2, -10000, 2100);
        because(d, 5, 500, -5, -5, 3, 200, -5, -5, 2);
        d.does("span", 5, 1, 2);
        because(d, 4, 500, -5, -5, 3, 200, -5, -5, 1);
        d.does("span", 4, 1, 2).does("span", 1, 3, 4);
        because(d, 1, 3, -5, -5, 4, 2, -5, -5);
    }

    private static void likeBoundsOfOne() {
        Dig d = new Dig("of one UNIT that of span() first, then by TRAYS (BAGS with them, by numbers), then by SLOTS");
        d.units(4).does("tray", 0, 4).does("bag", 0, 3, 3).does("tray", 0, 3);
        d.does("coin", 2, 2, 300, 310).does("coin", 2, 1, 50, 60);
        because(d, 0, 300, 2, 2, 0, 120, 2, 1);
        d.does("coin", 2, 0, 300, 301);
        because(d, 0, 300, 2, 0, 0, 120, 2, 1);
        d.does("coin", 1, 2, 300, 301).does("coin", 1, 1, 50, 60);
        because(d, 0, 300, 1, 2, 0, 120, 1, 1);
        d.does("coin", 0, 2, 300, 301).does("coin", 0, 0, 50, 60);
        because(d, 0, 300, 0, 2, 0, 120, 0, 0);
        d.does("span", 0, 5, 120);
        because(d, 0, 300, 0, 2, 0, 120, -5, -5);
        d.does("coin", 0, 1, 301, 400);
        because(d, 0, 301, 0, 1, 0, 120, -5, -5);
    }

    private static void likeBoundsByUnits() {
        Dig d = new Dig("of several like ones the first: by UNITS");
        d.units(0, 4, 4).does("bond", 2, 1).does("tray", 2, 2).does("tray", 1, 2);
        d.does("coin", 0, 0, 300, 310).does("coin", 0, 1, 50, 60);
        because(d, 2, 300, 0, 0, 2, 120, 0, 1);
        d.does("span", 2, 300, 2100);
        because(d, 2, 300, -5, -5, 2, 120, 0, 1);
        d.does("coin", 1, 0, 300, 310).does("coin", 1, 1, 50, 60);
        because(d, 1, 300, 1, 0, 1, 120, 1, 1);
    }

    private static void becauseNow() {
        Dig d = new Dig("40: Of THE QUARREL as it is now; NONE: it has not so many");
        d.layers(3).does("span", 0, 500, 600).does("span", 1, 1, 2).does("above", 1, 2).does("above", 2, 0);
        d.due(3, "quarrel").told(1, "because", 9).due(-5, "because", 10).does("above", 1, 0).due(2, "quarrel").told(2, "because", 8);
        d.due(-5, "because", 9).does("span", 1, 1, 500).due(-5, "because", 0).due(-5, "because", 8).due(2, "asked").does("undo");
        d.told(2, "because", 5).does("undo").told(0, "because", 8).told(1, "because", 9).due(-5, "because", MOST).due(-5, "because", LEAST);
        d.due(1, "asked").due(-5, "because", -1).due(1, "asked");
    }

    public static void main(String[] args) {
        span();
        drawnBad();
        together();
        coins();
        marks();
        samples();
        rounding();
        allOfOne();
        othersBoundNothing();
        noQuarrel();
        quarrelOfOne();
        quarrelOfOthers();
        leastRow();
        noRowIsLeast();
        apart();
        firstRow();
        blocksByNames();
        likeBoundsOfOne();
        likeBoundsByUnits();
        becauseNow();
        Dig.end("EdgesOfSpansTest");
    }
}
