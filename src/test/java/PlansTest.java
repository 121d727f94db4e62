/** Promises 36 and 37: PLANS, and which set keeps LANDS joined whichever two fall. */
public final class PlansTest {
    private static final Due due = new Due();

    public static void main(String[] args) {
        plans();
        bounds();
        leastOfSeveral();
        others();
        due.close();
    }

    private static LandLines lands(int n) {
        LandLines x = new LandLines();
        for (int i = 0; i < n; i++) {
            x.land(i, i);
        }
        return x;
    }

    private static void safe(LandLines x, int lands, int coins, int bits) {
        due.is("safe(" + lands + ", 0)", x.safe(lands, 0), coins);
        due.is("safe(" + lands + ", 1)", x.safe(lands, 1), bits);
    }

    private static void plans() {
        LandLines x = lands(2);
        int[][] bad = {{0, 0, 1}, {-1, 0, 1}, {0, -1, 1}, {2, 0, 1}, {0, 2, 1}, {0, 1, 0}, {0, 1, 1000}};
        for (int[] b : bad) {
            due.is("plan that is bad", x.plan(b[0], b[1], b[2]), LandLines.BAD);
        }
        for (int p = 0; p < 8; p++) {
            due.is("plan " + p, x.plan(p % 2, 1 - p % 2, 999), p);
        }
        due.is("the ninth", x.plan(0, 1, 1), LandLines.FULL);
        due.is("a bad ninth", x.plan(0, 0, 1), LandLines.BAD);
        due.is("PLANS", x.count(6), 8);
        safe(x, 3, 3 * 999, 7);
    }

    private static void bounds() {
        LandLines x = new LandLines();
        due.is("no LAND", x.safe(1, 0), LandLines.BAD);
        safe(x, 0, 0, 0);
        x.land(0, 0);
        safe(x, 1, 0, 0);
        due.is("a LAND that there is not", x.safe(2, 0), LandLines.BAD);
        due.is("safe(-1, 0)", x.safe(-1, 0), LandLines.BAD);
        due.is("safe(1, 2)", x.safe(1, 2), LandLines.BAD);
        due.is("safe(1, -1)", x.safe(1, -1), LandLines.BAD);
        LandLines y = lands(8);
        due.is("256", y.safe(256, 0), LandLines.BAD);
        safe(y, 255, LandLines.NONE, LandLines.NONE);
        safe(y, 128, 0, 0);
    }

    private static void leastOfSeveral() {
        LandLines x = lands(3);
        x.line(0, 1, 0, 1, 0, 0);
        x.plan(0, 1, 5);
        safe(x, 3, LandLines.NONE, LandLines.NONE);
        x.plan(0, 1, 6);
        safe(x, 3, 11, 3);
        x.plan(0, 2, 2);
        x.plan(1, 2, 3);
        x.plan(0, 1, 5);
        // 5 + 5 by two, or 5 + 2 + 3 by three: the fewest
        safe(x, 3, 10, 1 | 16);
        x.plan(1, 0, 5);
        due.is("the least bits", x.safe(3, 1), 1 | 16);
        x.cut(0, 0);
        due.is("CUT ones count as whole", x.safe(3, 0), 10);
        x.year(99);
        due.is("DIM ones, too", x.safe(3, 0), 10);
    }

    /** LANDS that are not told may fall off, yet help the others. */
    private static void others() {
        LandLines x = lands(4);
        x.line(0, 1, 0, 1, 0, 0);
        x.line(0, 2, 0, 1, 0, 0);
        x.line(2, 1, 0, 1, 0, 0);
        x.line(0, 3, 0, 1, 0, 0);
        x.line(3, 1, 0, 1, 0, 0);
        safe(x, 3, 0, 0);
        safe(x, 7, LandLines.NONE, LandLines.NONE);
        x.plan(2, 3, 9);
        safe(x, 15, 9, 1);
        safe(x, 3, 0, 0);
        safe(x, 12, 9, 1);
    }
}
