/** Promises 38 to 41, a test for each sentence that names an edge. */
public final class EdgeSheetsTest {
    private static final int BAD = LandLines.BAD, NONE = LandLines.NONE;
    private static final int NULL = -11, INDEX = -12, CAST = -13, SIZE = -14;
    private static final Edge edge = new Edge();

    public static void main(String[] args) {
        sheetBounds();
        sheetSize();
        sheetIsNew();
        layBounds();
        layFaults();
        layLowestBits();
        readBounds();
        readNull();
        readCast();
        readIndex();
        readNotAsMuch();
        readFirstMet();
        readSum();
        readOfNoDemand();
        countBounds();
        countEach();
        edge.close();
    }

    /** Two LANDS, so many DEMANDS of 1, 2, .. */
    private static LandLines asking(int demands) {
        LandLines x = new LandLines();
        x.land(0, 0);
        x.land(0, 0);
        for (int d = 0; d < demands; d++) {
            x.demand(0, 1, 1 + d);
        }
        return x;
    }

    private static void row(LandLines x, int k, int lane, int... cells) {
        x.sheet(k, lane, cells.length);
        for (int i = 0; i < cells.length; i++) {
            x.lay(k, i, cells[i]);
        }
    }

    private static void sheetBounds() {
        edge.sentence(38, "SHEETS 0 to 3");
        edge.bounds(BAD, World.SOME, 0, 0, 3, "sheet", 0, 0, 5);
        edge.bounds(BAD, World.NOTHING, 0, 0, 3, "sheet", 0, 0, 5);
        edge.sentence(38, "BYTES (lane 0), SHORTS (1), INTS (2)");
        edge.bounds(BAD, World.SOME, 1, 0, 2, "sheet", 0, 0, 5);
    }

    private static void sheetSize() {
        edge.sentence(38, "with 0 to 40 CELLS");
        for (int lane = 0; lane < 3; lane++) {
            LandLines x = new LandLines();
            edge.is(1, x, "sheet", 0, lane, 0);
            edge.is(0, x, "count", 11);
            edge.is(INDEX, x, "lay", 0, 0, 0);
            edge.is(1, x, "sheet", 0, lane, 40);
            edge.is(40, x, "count", 11);
            edge.is(1, x, "lay", 0, 39, 0);
            edge.is(INDEX, x, "lay", 0, 40, 0);
        }
        edge.sentence(38, "BAD: also n above 40");
        edge.refused(BAD, World.SOME, "sheet", 0, 0, 41);
        edge.refused(BAD, World.SOME, "sheet", 3, 2, 41);
        edge.refused(BAD, World.FULL, "sheet", 2, 2, Integer.MAX_VALUE);
        edge.sentence(38, "4 SIZE (below 0)");
        edge.refused(SIZE, World.SOME, "sheet", 0, 0, -1);
        edge.refused(SIZE, World.SOME, "sheet", 3, 2, -1);
        edge.refused(SIZE, World.FULL, "sheet", 1, 1, Integer.MIN_VALUE);
        edge.sentence(38, "BAD: also n above 40; -10 - 4");
        edge.refused(BAD, World.SOME, "sheet", 4, 0, -1);
        edge.refused(BAD, World.SOME, "sheet", -1, 0, -1);
        edge.refused(BAD, World.SOME, "sheet", 0, 3, -1);
        edge.refused(BAD, World.SOME, "sheet", 0, -1, -1);
    }

    private static void sheetIsNew() {
        edge.sentence(38, "A SHEET is a new row of CELLS 0: 1");
        LandLines x = asking(2);
        row(x, 0, 2, 11, 12);
        row(x, 1, 2, 21, 22);
        edge.is(1, x, "sheet", 0, 2, 2);
        edge.is(0, x, "read", 0, 2, 0);
        edge.is(43, x, "read", 1, 2, 0);
        row(x, 0, 2, 11, 12);
        edge.is(1, x, "sheet", 0, 2, 1);
        edge.is(1, x, "sheet", 0, 2, 2);
        edge.is(0, x, "read", 0, 2, 0);
        row(x, 0, 2, 11, 12);
        edge.is(1, x, "sheet", 0, 0, 2);
        edge.is(CAST, x, "read", 0, 2, 0);
        edge.is(0, x, "read", 0, 0, 0);
    }

    private static void layBounds() {
        edge.sentence(39, "BAD: k");
        edge.bounds(BAD, World.SOME, 0, 0, 3, "lay", 0, 0, 5);
        edge.bounds(BAD, World.NOTHING, 0, 0, 3, "lay", 0, 0, 5);
        edge.refused(BAD, World.FULL, "lay", 4, -1, 5);
    }

    private static void layFaults() {
        edge.sentence(39, "-10 less the FAULT: NULL, INDEX");
        edge.refused(NULL, World.SOME, "lay", 3, 0, 5);
        edge.refused(NULL, World.SOME, "lay", 3, -1, 5);
        edge.refused(NULL, World.SOME, "lay", 3, 40, 5);
        edge.bounds(INDEX, World.SOME, 1, 0, 4, "lay", 0, 0, 5);
        edge.bounds(INDEX, World.SOME, 1, 0, 2, "lay", 1, 0, 5);
        edge.bounds(INDEX, World.SOME, 1, 0, 3, "lay", 2, 0, 5);
        edge.bounds(INDEX, World.FULL, 1, 0, 39, "lay", 2, 0, 5);
        edge.refused(INDEX, World.FULL, "lay", 3, 0, 5);
        edge.refused(INDEX, World.FULL, "lay", 3, -1, 5);
    }

    private static void laid(int lane, int v, int want) {
        LandLines x = asking(1);
        x.sheet(2, lane, 1);
        edge.is(1, x, "lay", 2, 0, v);
        edge.is(want, x, "read", 2, lane, 0);
        edge.is(want < 0 ? 1 : want, x, "much", 0, 0);
    }

    private static void layLowestBits() {
        edge.sentence(39, "CELL i of a SHEET becomes v (its lowest bits)");
        int[] wide = {8, 16};
        for (int lane = 0; lane < 2; lane++) {
            int span = 1 << wide[lane];
            for (int v : new int[] {0, span, -span, 7 * span, Integer.MIN_VALUE, -2 * span}) {
                laid(lane, v, 0);
                laid(lane, v + 99, 99);
                laid(lane, v + 100, -20);
                laid(lane, v + span / 2 - 1, -20);
                laid(lane, v + span / 2, -20);
                laid(lane, v + span - 1, -20);
            }
        }
        laid(2, 0, 0);
        laid(2, 99, 99);
        for (int v : new int[] {100, -1, 256, 65536, 1 << 24, Integer.MIN_VALUE, Integer.MAX_VALUE}) {
            laid(2, v, -20);
        }
        laid(1, 256, -20);
        laid(1, 256 + 99, -20);
    }

    private static void readBounds() {
        edge.sentence(40, "BAD: k, lane");
        edge.bounds(BAD, World.SOME, 0, 0, 3, "read", 0, 0, 0);
        edge.bounds(BAD, World.SOME, 1, 0, 2, "read", 0, 0, 0);
        edge.bounds(BAD, World.NOTHING, 1, 0, 2, "read", 0, 0, 0);
        edge.sentence(40, "BAD: k, lane; -10 less the FAULT");
        edge.refused(BAD, World.SOME, "read", 3, 3, 0);
        edge.refused(BAD, World.SOME, "read", 4, 0, -1);
        edge.refused(BAD, World.SOME, "read", 0, -1, 99);
    }

    private static void readNull() {
        edge.sentence(40, "1 NULL (nothing)");
        for (int lane = 0; lane < 3; lane++) {
            edge.refused(NULL, World.SOME, "read", 3, lane, 0);
            edge.refused(NULL, World.NOTHING, "read", 0, lane, -1);
        }
    }

    private static void readCast() {
        edge.sentence(40, "3 CAST (another lane)");
        for (int k = 0; k < 3; k++) {
            for (int lane = 0; lane < 3; lane++) {
                if (lane != k) {
                    edge.refused(CAST, World.SOME, "read", k, lane, 0);
                    edge.refused(CAST, World.FULL, "read", k, lane, -1);
                }
            }
        }
        edge.refused(CAST, World.FULL, "read", 3, 1, 0);
    }

    private static void readIndex() {
        edge.sentence(40, "then DEMAND by DEMAND INDEX");
        for (long f : new long[] {-1, 3, 5, Integer.MIN_VALUE, Integer.MAX_VALUE, Integer.MAX_VALUE - 1L}) {
            edge.refused(INDEX, World.SOME, "read", 0, 0, f);
        }
        edge.is(11 + 12 + 13, World.SOME, "read", 0, 0, 0);
        edge.is(13, World.SOME, "read", 0, 0, 2);
        for (long f : new long[] {-1, 29, 40, Integer.MIN_VALUE, Integer.MAX_VALUE, Integer.MAX_VALUE - 11L}) {
            edge.refused(INDEX, World.FULL, "read", 1, 1, f);
        }
        edge.is(30 + 35, World.FULL, "read", 1, 1, 28);
        edge.refused(INDEX, World.FULL, "read", 3, 0, 0);
    }

    private static void readNotAsMuch() {
        edge.sentence(40, "-20 less d: it is not 0 to 99");
        for (int lane = 0; lane < 3; lane++) {
            for (int v : new int[] {-1, 100}) {
                for (int d = 0; d < 12; d++) {
                    LandLines x = asking(12);
                    x.sheet(0, lane, 12);
                    x.lay(0, d, v);
                    edge.is(-20 - d, x, "read", 0, lane, 0);
                    edge.is(1 + d, x, "much", d, 5);
                    edge.is(d == 0 ? 2 : 1, x, "much", d == 0 ? 1 : 0, 5);
                }
            }
        }
    }

    private static void readFirstMet() {
        edge.sentence(40, "the first met: then none changed");
        LandLines x = asking(3);
        row(x, 0, 1, 5, 100, 7);
        edge.is(-21, x, "read", 0, 1, 0);
        edge.is(-20, x, "read", 0, 1, 1);
        edge.is(INDEX, x, "read", 0, 1, 2);
        edge.is(INDEX, x, "read", 0, 1, -1);
        row(x, 0, 1, 5, 7, 100);
        edge.is(-22, x, "read", 0, 1, 0);
        edge.is(-21, x, "read", 0, 1, 1);
        edge.is(-20, x, "read", 0, 1, 2);
        row(x, 0, 1, -1, 100, 200);
        edge.is(-20, x, "read", 0, 1, 0);
        for (int d = 0; d < 3; d++) {
            edge.is(1 + d, x, "much", d, 0);
        }
    }

    private static void readSum() {
        edge.sentence(40, "DEMAND d of CELL f + d: the sum");
        LandLines x = asking(3);
        row(x, 1, 0, 0, 99, 50, 1, 2);
        edge.is(149, x, "read", 1, 0, 0);
        edge.is(0, x, "much", 0, 0);
        edge.is(99, x, "much", 1, 0);
        edge.is(50, x, "much", 2, 0);
        edge.is(53, x, "read", 1, 0, 2);
        edge.is(50, x, "much", 0, 0);
        edge.is(1, x, "much", 1, 0);
        edge.is(2, x, "much", 2, 0);
        LandLines y = asking(12);
        y.sheet(3, 2, 40);
        for (int i = 28; i < 40; i++) {
            y.lay(3, i, 99);
        }
        edge.is(12 * 99, y, "read", 3, 2, 28);
        edge.is(INDEX, y, "read", 3, 2, 29);
        edge.is(11 * 99, y, "read", 3, 2, 27);
        edge.is(0, y, "much", 0, 1);
    }

    private static void readOfNoDemand() {
        edge.sentence(40, "How much each DEMAND is");
        LandLines x = new LandLines();
        x.sheet(0, 0, 0);
        for (long f : new long[] {0, -1, 40, Integer.MIN_VALUE, Integer.MAX_VALUE}) {
            edge.is(0, x, "read", 0, 0, f);
        }
        edge.is(CAST, x, "read", 0, 1, 0);
        edge.is(NULL, x, "read", 1, 0, 0);
        edge.is(BAD, x, "read", 4, 0, 0);
    }

    private static void countBounds() {
        edge.sentence(41, "How many: 0 LANDS, .. 11 CELLS of SHEET 0 .. BAD.");
        edge.bounds(BAD, World.SOME, 0, 0, 11, "count", 0);
        edge.bounds(BAD, World.NOTHING, 0, 0, 11, "count", 0);
        edge.bounds(BAD, World.FULL, 0, 0, 11, "count", 0);
    }

    private static void countEach() {
        edge.sentence(41, "11 CELLS of SHEET 0 (NONE: nothing)");
        LandLines x = new LandLines();
        x.sheet(1, 0, 7);
        x.sheet(0, 0, -1);
        x.sheet(0, 0, 41);
        edge.is(NONE, x, "count", 11);
        x.sheet(0, 0, 0);
        edge.is(0, x, "count", 11);
        x.sheet(0, 2, 40);
        edge.is(40, x, "count", 11);
        edge.sentence(41, "0 LANDS, 1 LINES, 2 DEMANDS, 3 BREAKS, 4 OPEN ones, 5 SHIPS, 6 PLANS, 7 THE YEAR, 8 THE HOUR");
        int[] some = {4, 4, 3, 3, 3, 2, 3, 3, 20, 2, 16, 5};
        int[] full = {8, 12, 12, 8, 7, 3, 8, 99, 510, 4, 240, 40};
        for (int what = 0; what < 12; what++) {
            edge.is(some[what], World.SOME, "count", what);
            edge.is(full[what], World.FULL, "count", what);
        }
    }
}
