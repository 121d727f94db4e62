/** Promises 34 to 37, a test for each sentence that names an edge. */
public final class EdgeCoinsTest {
    private static final int BAD = LandLines.BAD, FULL = LandLines.FULL, NONE = LandLines.NONE;
    private static final Edge edge = new Edge();

    public static void main(String[] args) {
        owedBounds();
        hoursOfRent();
        aheadOfTheHour();
        hoursOfBreak();
        twoBreaks();
        asKnown();
        mendingAsToldNow();
        housesAndCoins();
        lineThatThereIsNot();
        planBounds();
        planFull();
        safeBounds();
        safeOfFewLands();
        safeNone();
        safeTwoFall();
        safeByTurns();
        safeLeast();
        safeWhole();
        safeAllPlans();
        edge.close();
    }

    /** Two LANDS, two DRY LINES between them, rules told, THE HOUR. */
    private static LandLines rented(int hour, String text) {
        LandLines x = new LandLines();
        x.land(0, 0);
        x.land(0, 0);
        x.line(0, 1, 0, 1, 0, 0);
        x.line(0, 1, 0, 1, 0, 0);
        Due.rules(x, text);
        x.hour(hour);
        return x;
    }

    private static void both(LandLines x, int h, int e, int owed, int paid) {
        edge.is(owed, x, "owed", h, e);
        edge.is(paid, x, "paid", h, e);
    }

    private static void owedBounds() {
        edge.sentence(34, "OWED to a HOUSE (0 to 5)");
        edge.bounds(BAD, World.SOME, 0, 0, 5, "owed", 1, 20);
        edge.sentence(34, "AS KNOWN in an HOUR e (0 to 999). BAD.");
        edge.bounds(BAD, World.SOME, 1, 0, 999, "owed", 1, 20);
        edge.bounds(BAD, World.NOTHING, 1, 0, 999, "owed", 1, 20);
        edge.sentence(35, "PAID by a HOUSE");
        edge.bounds(BAD, World.SOME, 0, 0, 5, "paid", 1, 20);
        edge.sentence(35, "AS KNOWN in an HOUR e. BAD.");
        edge.bounds(BAD, World.SOME, 1, 0, 999, "paid", 1, 20);
        edge.bounds(BAD, World.NOTHING, 1, 0, 999, "paid", 1, 20);
    }

    private static void hoursOfRent() {
        edge.sentence(34, "HOURS from (0 to 998) and to (above from, 999 at most)");
        LandLines x = rented(20, "rent a 0 1 from 5 to 9 for 7;rent b 0 1 from 5 to 6 for 7;");
        both(x, 0, 999, 0, 4 * 7);
        both(x, 1, 999, 0, 7);
        x.cut(0, 0);
        both(x, 0, 999, 4 * 7, 0);
        both(x, 1, 999, 7, 0);
        LandLines y = rented(999, "rent a 0 1 from 0 to 999 for 1;rent b 0 1 from 998 to 999 for 1;");
        both(y, 0, 999, 0, 999);
        both(y, 1, 999, 0, 1);
        y.cut(0, 0);
        both(y, 0, 999, 999, 0);
        both(y, 1, 999, 1, 0);
    }

    private static void aheadOfTheHour() {
        edge.sentence(34, "coins for each HOUR of it ahead of THE HOUR");
        String text = "rent a 0 1 from 5 to 8 for 3;";
        int[] hours = {0, 4, 5, 6, 7, 8, 9, 999};
        int[] count = {0, 0, 0, 1, 2, 3, 3, 3};
        for (int i = 0; i < hours.length; i++) {
            LandLines x = rented(hours[i], text);
            both(x, 0, 999, 0, 3 * count[i]);
            x.cut(0, 0);
            both(x, 0, 999, 3 * count[i], 0);
        }
    }

    private static void hoursOfBreak() {
        edge.sentence(34, "in which a BREAK of that LINE was OPEN");
        String text = "rent a 0 1 from 5 to 8 for 1;";
        int[] since = {0, 5, 6, 7, 8, 20};
        int[] down = {3, 3, 2, 1, 0, 0};
        for (int i = 0; i < since.length; i++) {
            LandLines x = rented(20, text);
            x.cut(0, since[i]);
            both(x, 0, 999, down[i], 3 - down[i]);
            LandLines y = rented(20, text);
            y.cut(1, since[i]);
            both(y, 0, 999, 0, 3);
        }
        // OPEN from 3 to 7: the HOUR when it is MENDED is none of them
        for (int from = 0; from < 10; from++) {
            LandLines z = rented(3, "rent a 0 1 from " + from + " to " + (from + 1) + " for 1;");
            z.cut(0, 3);
            z.ship(0, 99, 1);
            edge.is(7, z, "send", 0, 0);
            z.hour(20);
            int was = from >= 3 && from < 7 ? 1 : 0;
            both(z, 0, 999, was, 1 - was);
        }
    }

    private static void twoBreaks() {
        edge.sentence(34, "coins for each HOUR of it .. in which a BREAK of that LINE was OPEN");
        LandLines x = rented(10, "rent a 0 1 from 0 to 30 for 1;");
        x.cut(0, 4);
        x.cut(0, 2);
        x.cut(0, 4);
        both(x, 0, 999, 8, 2);
        x.ship(0, 99, 1);
        edge.is(14, x, "send", 0, 0);
        edge.is(18, x, "send", 0, 1);
        edge.is(22, x, "send", 0, 2);
        x.hour(25);
        both(x, 0, 999, 20, 5);
        x.cut(0, 23);
        both(x, 0, 999, 22, 3);
        x.cut(0, 22);
        both(x, 0, 999, 23, 2);
        x.hour(30);
        both(x, 0, 999, 28, 2);
        x.hour(999);
        both(x, 0, 999, 28, 2);
        LandLines y = rented(999, "rent a 0 1 from 0 to 999 for 1;");
        for (int b = 0; b < 8; b++) {
            y.cut(0, 990 - 10 * b);
        }
        both(y, 0, 999, 79, 920);
    }

    private static void asKnown() {
        edge.sentence(34, "AS KNOWN in an HOUR: by BREAKS that were SAID up to then");
        LandLines x = rented(7, "rent a 0 1 from 0 to 99 for 1;");
        x.cut(0, 3);
        x.hour(9);
        x.cut(0, 1);
        x.hour(10);
        both(x, 0, 0, 0, 10);
        both(x, 0, 3, 0, 10);
        both(x, 0, 6, 0, 10);
        both(x, 0, 7, 7, 3);
        both(x, 0, 8, 7, 3);
        both(x, 0, 9, 9, 1);
        both(x, 0, 10, 9, 1);
        both(x, 0, 999, 9, 1);
        LandLines y = rented(0, "rent a 0 1 from 0 to 99 for 1;");
        y.cut(0, 0);
        y.hour(5);
        both(y, 0, 0, 5, 0);
        LandLines z = rented(999, "rent a 0 1 from 998 to 999 for 1;");
        z.cut(0, 998);
        both(z, 0, 998, 0, 1);
        both(z, 0, 999, 1, 0);
    }

    private static void mendingAsToldNow() {
        edge.sentence(34, "(their MENDING as it is told now)");
        LandLines x = rented(2, "rent a 0 1 from 0 to 99 for 1;");
        x.cut(0, 1);
        x.hour(20);
        both(x, 0, 2, 19, 1);
        x.ship(0, 99, 1);
        edge.is(24, x, "send", 0, 0);
        both(x, 0, 2, 19, 1);
        x.hour(24);
        both(x, 0, 2, 23, 1);
        x.hour(30);
        both(x, 0, 2, 23, 7);
        both(x, 0, 1, 0, 30);
    }

    private static void housesAndCoins() {
        edge.sentence(34, "for each rent of it");
        LandLines x = rented(10, "rent a 0 8 from 0 to 9 for 99;rent f 0 1 from 0 to 9 for 0;"
                + "rent a 1 1 from 0 to 9 for 1;rent f 0 1 from 1 to 9 for 2;");
        x.cut(0, 5);
        both(x, 0, 999, 4 * 99, 5 * 99 + 9);
        both(x, 5, 999, 4 * 2, 4 * 2);
        for (int h = 1; h < 5; h++) {
            both(x, h, 999, 0, 0);
        }
        LandLines y = rented(999, "rent e0 1from0to999for99;".repeat(8));
        edge.is(8, y, "rule", 8);
        both(y, 4, 999, 0, 8 * 999 * 99);
        y.cut(0, 0);
        both(y, 4, 999, 8 * 999 * 99, 0);
    }

    private static void lineThatThereIsNot() {
        edge.sentence(35, "PAID likewise: coins for each other HOUR of it ahead of THE HOUR");
        LandLines x = rented(10, "rent a 2 1 from 0 to 5 for 3;rent b 11 1 from 0 to 5 for 3;");
        x.cut(1, 0);
        both(x, 0, 999, 0, 15);
        both(x, 1, 999, 0, 15);
        x.line(0, 1, 0, 1, 0, 0);
        both(x, 0, 999, 0, 15);
        x.cut(2, 1);
        both(x, 0, 999, 12, 3);
    }

    private static void planBounds() {
        edge.sentence(36, "between two LANDS");
        edge.bounds(BAD, World.SOME, 0, 0, 3, "plan", 1, 2, 5);
        edge.bounds(BAD, World.SOME, 1, 0, 3, "plan", 2, 1, 5);
        edge.refused(BAD, World.NOTHING, "plan", 0, 1, 5);
        edge.sentence(36, "coins (1 to 999)");
        edge.bounds(BAD, World.SOME, 2, 1, 999, "plan", 0, 1, 5);
        edge.sentence(36, "BAD: also to the same LAND");
        for (int land = 0; land < 4; land++) {
            edge.refused(BAD, World.SOME, "plan", land, land, 5);
        }
    }

    private static void planFull() {
        edge.sentence(36, "PLANS (8) are numbered as they come");
        LandLines x = lands(2);
        for (int p = 0; p < 8; p++) {
            edge.is(p, x, "plan", 1, 0, 1);
        }
        edge.is(FULL, x, "plan", 1, 0, 1);
        edge.is(8, x, "count", 6);
        edge.sentence(36, "FULL");
        edge.refused(FULL, World.FULL, "plan", 0, 1, 1);
        edge.refused(BAD, World.FULL, "plan", 0, 0, 1);
        edge.refused(BAD, World.FULL, "plan", 0, 8, 1);
        edge.refused(BAD, World.FULL, "plan", 0, 1, 0);
        edge.refused(BAD, World.FULL, "plan", 0, 1, 1000);
    }

    private static LandLines lands(int n) {
        LandLines x = new LandLines();
        for (int i = 0; i < n; i++) {
            x.land(i, 0);
        }
        return x;
    }

    private static void safe(LandLines x, int lands, int coins, int bits) {
        edge.is(coins, x, "safe", lands, 0);
        edge.is(bits, x, "safe", lands, 1);
    }

    private static void safeBounds() {
        edge.sentence(37, "BAD: also LANDS that there are not");
        edge.bounds(BAD, World.NOTHING, 0, 0, 0, "safe", 0, 0);
        edge.bounds(BAD, World.SOME, 0, 0, 15, "safe", 3, 0);
        edge.bounds(BAD, World.FULL, 0, 0, 255, "safe", 3, 0);
        edge.refused(BAD, World.SOME, "safe", 17, 0);
        edge.refused(BAD, World.SOME, "safe", 128, 1);
        edge.sentence(37, "what 0 coins, 1 PLANS (bits). BAD");
        edge.bounds(BAD, World.SOME, 1, 0, 1, "safe", 3, 0);
        edge.sentence(37, "BAD .. NONE");
        edge.refused(NONE, World.SOME, "safe", 15, 0);
        edge.refused(NONE, World.SOME, "safe", 15, 1);
        edge.refused(BAD, World.SOME, "safe", 15, 2);
        edge.refused(BAD, World.SOME, "safe", 15, -1);
    }

    private static void safeOfFewLands() {
        edge.sentence(37, "SAFE for some LANDS (bits)");
        safe(new LandLines(), 0, 0, 0);
        LandLines x = lands(8);
        safe(x, 0, 0, 0);
        for (int i = 0; i < 8; i++) {
            safe(x, 1 << i, 0, 0);
        }
        x.plan(0, 1, 1);
        safe(x, 128, 0, 0);
    }

    private static void safeNone() {
        edge.sentence(37, "NONE: no set is");
        LandLines x = lands(8);
        safe(x, 3, NONE, NONE);
        safe(x, 129, NONE, NONE);
        for (int i = 0; i < 2; i++) {
            x.plan(0, 7, 1);
        }
        safe(x, 129, NONE, NONE);
        x.plan(7, 0, 1);
        safe(x, 129, 3, 7);
        safe(x, 255, NONE, NONE);
    }

    private static void safeTwoFall() {
        edge.sentence(37, "whichever two (or one, or none) of all LINES and these fall, all these LANDS are joined");
        for (int lines = 0; lines <= 4; lines++) {
            LandLines x = lands(2);
            for (int l = 0; l < lines; l++) {
                x.line(0, 1, 0, 1, 0, 0);
            }
            for (int p = 0; p < 3; p++) {
                x.plan(0, 1, 5);
            }
            int more = Math.max(0, 3 - lines);
            safe(x, 3, 5 * more, (1 << more) - 1);
        }
        LandLines y = lands(4);
        for (int i = 0; i < 4; i++) {
            y.line(i, (i + 1) % 4, 0, 1, 0, 0);
        }
        y.plan(0, 2, 1);
        safe(y, 5, 1, 1);
        safe(y, 15, NONE, NONE);
        y.plan(1, 3, 1);
        safe(y, 15, 2, 3);
        safe(y, 5, 1, 1);
        safe(y, 10, 1, 2);
        edge.sentence(37, "joined by the others");
        LandLines z = lands(3);
        z.line(0, 2, 0, 1, 0, 0);
        z.line(0, 2, 0, 1, 0, 0);
        z.line(2, 1, 0, 1, 0, 0);
        z.line(2, 1, 0, 1, 0, 0);
        z.plan(0, 1, 7);
        safe(z, 3, 7, 1);
        safe(z, 7, 7, 1);
        safe(z, 4, 0, 0);
    }

    /** Three WAYS are there only if the second one takes LINE 1 from the first, and the third one goes by it again. */
    private static void safeByTurns() {
        edge.sentence(37, "whichever two .. fall, all these LANDS are joined by the others");
        LandLines x = lands(5);
        int[] ends = {1, 12, 23, 13, 23, 2, 41, 4};
        for (int e : ends) {
            x.line(e / 10, e % 10, 0, 1, 0, 0);
        }
        safe(x, 1 | 8, 0, 0);
        safe(x, 1 | 2 | 4 | 8, 0, 0);
        safe(x, 31, NONE, NONE);
    }

    private static void safeLeast() {
        edge.sentence(37, "the least coins, then the fewest, then the least bits");
        LandLines x = lands(2);
        x.line(0, 1, 0, 1, 0, 0);
        x.line(0, 1, 0, 1, 0, 0);
        x.plan(0, 1, 6);
        x.plan(0, 1, 5);
        x.plan(0, 1, 5);
        safe(x, 3, 5, 2);
        LandLines y = lands(3);
        y.line(0, 1, 0, 1, 0, 0);
        y.line(0, 1, 0, 1, 0, 0);
        y.plan(0, 2, 2);
        y.plan(2, 1, 3);
        y.plan(0, 1, 5);
        safe(y, 3, 5, 4);
        LandLines z = lands(3);
        z.line(0, 1, 0, 1, 0, 0);
        z.line(0, 1, 0, 1, 0, 0);
        z.plan(0, 2, 2);
        z.plan(2, 1, 2);
        z.plan(0, 1, 5);
        safe(z, 3, 4, 3);
    }

    private static void safeWhole() {
        edge.sentence(37, "(CUT and DIM ones count as whole)");
        LandLines x = lands(2);
        for (int l = 0; l < 3; l++) {
            x.line(0, 1, 0, 1, 0, 0);
            x.cut(l, 0);
        }
        safe(x, 3, 0, 0);
        x.year(99);
        safe(x, 3, 0, 0);
        edge.is(0, x, "count", 9);
    }

    /** A wheel with four spokes: all of its eight PLANS are needed. */
    private static void safeAllPlans() {
        edge.sentence(37, "PLANS (8) .. coins (1 to 999)");
        LandLines x = lands(5);
        for (int i = 0; i < 4; i++) {
            x.plan(i, (i + 1) % 4, 999);
            x.plan(4, i, 999);
        }
        safe(x, 31, 8 * 999, 255);
        LandLines z = lands(8);
        for (int l = 0; l < 12; l++) {
            z.line(6, 7, 0, 1, 0, 0);
        }
        for (int i = 0; i < 4; i++) {
            z.plan(i, (i + 1) % 4, 1);
            z.plan(4, i, 1);
        }
        safe(z, 31, 8, 255);
        safe(z, 128 + 64, 0, 0);
        safe(z, 128 + 1, NONE, NONE);
        LandLines y = lands(8);
        for (int i = 0; i < 8; i++) {
            y.line(i, (i + 1) % 8, 0, 1, 0, 0);
        }
        for (int i = 0; i < 4; i++) {
            y.plan(i, i + 4, 1);
        }
        safe(y, 255, 4, 15);
        for (int i = 0; i < 4; i++) {
            y.line(i, i + 4, 0, 1, 0, 0);
            y.plan(i, i + 4, 1);
        }
        safe(y, 255, 0, 0);
        edge.is(12, y, "count", 1);
        edge.is(8, y, "count", 6);
    }
}
