/** Promises 16 to 23: DEMANDS, LED, PARTS, SWING. */
public final class TrafficTest {
    private static final Due due = new Due();

    public static void main(String[] args) {
        demands();
        much();
        led();
        ways();
        longWays();
        aheadBelowNothing();
        parts();
        worst();
        swing();
        swingRests();
        swings();
        due.close();
    }

    /** LANDS at one place, LINES of one fibre (ROOM 5) as their ends are told, two figures each. */
    private static LandLines net(int lands, int... ends) {
        LandLines x = new LandLines();
        for (int i = 0; i < lands; i++) {
            x.land(0, 0);
        }
        for (int e : ends) {
            x.line(e / 10, e % 10, 0, 1, 0, 0);
        }
        return x;
    }

    private static void demands() {
        LandLines x = net(2);
        int[][] bad = {{0, 0, 1}, {-1, 0, 1}, {0, -1, 1}, {2, 0, 1}, {0, 2, 1}, {0, 1, 0}, {0, 1, 100}, {0, 1, -1}};
        for (int[] b : bad) {
            due.is("demand that is bad", x.demand(b[0], b[1], b[2]), LandLines.BAD);
        }
        for (int d = 0; d < 12; d++) {
            due.is("demand " + d, x.demand(d % 2, 1 - d % 2, d == 0 ? 99 : 1), d);
        }
        due.is("the thirteenth", x.demand(0, 1, 1), LandLines.FULL);
        due.is("a bad thirteenth", x.demand(0, 0, 1), LandLines.BAD);
        due.is("twelve", x.count(2), 12);
    }

    private static void much() {
        LandLines x = net(2, 1);
        x.demand(0, 1, 4);
        due.is("much(0, 0)", x.much(0, 0), 4);
        due.is("none goes", x.led(0), 0);
        due.is("none is LOST", x.led(1), 0);
        due.is("no WAY", x.way(0, 0), LandLines.NONE);
        due.is("no WAY in SWING", x.swing(0, 0, 0), LandLines.NONE);
        due.is("much(0, 99)", x.much(0, 99), 0);
        due.is("99 is LOST", x.led(1), 99);
        int[][] bad = {{1, 0}, {-1, 0}, {0, -1}, {0, 100}};
        for (int[] b : bad) {
            due.is("much that is bad", x.much(b[0], b[1]), LandLines.BAD);
        }
        due.is("it stays", x.much(0, 1), 99);
    }

    private static void led() {
        LandLines x = net(3, 1, 12);
        x.demand(0, 2, 3);
        x.demand(2, 1, 3);
        x.demand(1, 2, 2);
        x.demand(1, 0, 2);
        due.is("what goes", x.led(0), 7);
        due.is("what is LOST", x.led(1), 3);
        due.is("who is LOST", x.led(2), 2);
        due.is("by LINE 0", x.lineOf(0, 9), 5);
        due.is("by LINE 1", x.lineOf(1, 9), 5);
        due.is("led(3)", x.led(3), LandLines.BAD);
        due.is("led(-1)", x.led(-1), LandLines.BAD);
        x.cut(1, 0);
        due.is("who is LOST by a CUT", x.led(2), 7);
        due.is("what goes then", x.led(0), 2);
    }

    private static void ways() {
        LandLines x = net(5, 12, 24, 3, 34, 1, 14, 4);
        x.demand(0, 4, 5);
        x.demand(0, 4, 5);
        x.demand(4, 0, 1);
        x.demand(0, 4, 1);
        due.is("the fewest LINES", x.way(0, 0), 6);
        due.is("and no more", x.way(0, 1), LandLines.NONE);
        due.is("the least row", x.way(1, 0), 2);
        due.is("the least row, then", x.way(1, 1), 3);
        due.is("what is left", x.way(2, 0), 5);
        due.is("what is left, then", x.way(2, 1), 4);
        due.is("shared both ways", x.way(3, 0), 4);
        due.is("way(4, 0)", x.way(4, 0), LandLines.BAD);
        due.is("way(-1, 0)", x.way(-1, 0), LandLines.BAD);
        due.is("way(0, -1)", x.way(0, -1), LandLines.BAD);
        due.is("way(0, MAX)", x.way(0, Integer.MAX_VALUE), LandLines.NONE);
        x.much(2, 99);
        due.is("LOST has no WAY", x.way(2, 0), LandLines.NONE);
    }

    private static void longWays() {
        LandLines x = net(8, 1, 12, 23, 34, 45, 56, 67);
        x.demand(7, 0, 5);
        for (int i = 0; i < 7; i++) {
            due.is("a long WAY, place " + i, x.way(0, i), 6 - i);
            due.is("a long WAY of SWING, place " + i, x.swing(60, 0, i), 6 - i);
        }
        due.is("its end", x.way(0, 7), LandLines.NONE);
        due.is("LOAD is ROOM, not above", x.swings(3), 0);
        x.much(0, 6);
        due.is("LOAD is above ROOM", x.swings(3), 127);
        due.is("PARTS by LAND 0", x.parts(0, 0, 5), 2);
        due.is("LINES there are all LIT", x.count(9), 7);
    }

    /** What goes first can be in the way of more: then less is LOST without its LINE. */
    private static void aheadBelowNothing() {
        LandLines x = net(3, 1, 12);
        x.demand(0, 2, 1);
        x.demand(1, 2, 5);
        due.is("5 is LOST", x.led(1), 5);
        due.is("1 is LOST instead", x.lineOf(0, 10), -4);
        due.is("one more", x.lineOf(1, 10), 1);
    }

    private static void parts() {
        LandLines x = net(4, 1, 12, 23, 1);
        due.is("one heap", x.parts(3, 3, 0), 1);
        due.is("two heaps", x.parts(0, 3, 0), 2);
        due.is("one and the same", x.parts(1, 1, 5), 2);
        due.is("ROOM itself is enough", x.parts(0, 0, 5), 1);
        due.is("no such ROOM", x.parts(0, 0, 6), 4);
        due.is("of two LINES", x.parts(1, 2, 5), 3);
        x.cut(2, 0);
        due.is("CUT", x.parts(0, 0, 1), 2);
        due.is("CUT with ROOM 0", x.parts(0, 0, 0), 1);
        int[][] bad = {{4, 0, 0}, {0, 4, 0}, {-1, 0, 0}, {0, -1, 0}, {0, 0, -1}, {0, 0, 401}};
        for (int[] b : bad) {
            due.is("parts that is bad", x.parts(b[0], b[1], b[2]), LandLines.BAD);
        }
        Due.rules(x, "room 50;");
        x.change(0, 0, 8);
        due.is("400", x.parts(1, 1, 400), 3);
    }

    private static void worst() {
        LandLines x = net(4, 1);
        due.is("one LINE", x.worst(0, 0), LandLines.NONE);
        due.is("one LINE, PARTS", x.worst(0, 1), LandLines.NONE);
        due.is("one LINE, bad", x.worst(0, 2), LandLines.BAD);
        x.line(0, 1, 0, 1, 0, 0);
        x.line(1, 2, 0, 2, 0, 0);
        x.line(2, 3, 0, 1, 0, 0);
        due.is("the worst two", x.worst(0, 0), 203);
        due.is("its PARTS", x.worst(0, 1), 3);
        due.is("the least of several", x.worst(6, 0), 2);
        due.is("with ROOM 6", x.worst(6, 1), 4);
        due.is("with ROOM 11", x.worst(11, 0), 1);
        for (int l = 4; l < 12; l++) {
            x.line(2, 3, 0, 1, 0, 0);
        }
        x.line(2, 3, 0, 1, 0, 0);
        due.is("of twelve", x.worst(0, 0), 1);
        due.is("of twelve, PARTS", x.worst(0, 1), 2);
        int[][] bad = {{-1, 0}, {401, 0}, {0, -1}, {0, 2}};
        for (int[] b : bad) {
            due.is("worst that is bad", x.worst(b[0], b[1]), LandLines.BAD);
        }
    }

    private static void swing() {
        LandLines x = net(4, 1, 13, 2, 23);
        x.demand(0, 3, 2);
        x.demand(0, 3, 99);
        int[][] want = {{0, 1}, {2, 3}, {0, 1}, {2, 3}};
        for (int t = 0; t < 4; t++) {
            for (int d = 0; d < 2; d++) {
                due.is("swing(" + t + ", " + d + ", 0)", x.swing(t, d, 0), want[t][0]);
                due.is("swing(" + t + ", " + d + ", 1)", x.swing(t, d, 1), want[t][1]);
                due.is("swing(" + t + ", " + d + ", 2)", x.swing(t, d, 2), LandLines.NONE);
            }
        }
        due.is("swing(60, 0, 0)", x.swing(60, 0, 0), 0);
        due.is("swing(59, 0, 0)", x.swing(59, 0, 0), 2);
        int[][] bad = {{-1, 0, 0}, {61, 0, 0}, {0, 2, 0}, {0, -1, 0}, {0, 0, -1}};
        for (int[] b : bad) {
            due.is("swing that is bad", x.swing(b[0], b[1], b[2]), LandLines.BAD);
        }
        x.cut(3, 0);
        due.is("no LINE without ROOM", x.swing(1, 1, 0), 0);
        x.cut(0, 0);
        due.is("LOST", x.swing(1, 1, 0), LandLines.NONE);
    }

    /** The sum counts ahead of how many LINES: a detour without LOAD is chosen against a LOAD of 2. */
    private static void swingRests() {
        LandLines x = net(3, 1, 2, 12);
        x.demand(0, 1, 2);
        due.is("straight at first", x.swing(0, 0, 0), 0);
        due.is("then round about", x.swing(1, 0, 0), 1);
        due.is("then round about, on", x.swing(1, 0, 1), 2);
        due.is("it goes round", x.swings(1), 2);
        x.much(0, 1);
        due.is("2 and 2: the fewest LINES", x.swing(1, 0, 0), 0);
        due.is("it RESTS", x.swings(1), 1);
        due.is("from turn 0 on", x.swings(0), 0);
        due.is("the greatest LOAD", x.swings(2), 1);
        due.is("none above ROOM", x.swings(3), 0);
    }

    private static void swings() {
        LandLines x = net(4, 1, 13, 2, 23);
        due.is("nothing RESTS", x.swings(1), 1);
        due.is("nothing has no LOAD", x.swings(2), 0);
        due.is("nothing is above ROOM", x.swings(3), 0);
        x.demand(0, 3, 4);
        x.demand(1, 3, 2);
        due.is("from", x.swings(0), 0);
        due.is("ROUND", x.swings(1), 2);
        due.is("greatest LOAD", x.swings(2), 6);
        due.is("above ROOM", x.swings(3), 2);
        due.is("swings(4)", x.swings(4), LandLines.BAD);
        due.is("swings(-1)", x.swings(-1), LandLines.BAD);
        LandLines y = net(3, 2, 10, 20);
        y.demand(0, 2, 5);
        y.demand(0, 1, 4);
        due.is("turn 0", y.swing(0, 0, 0), 0);
        due.is("turn 1", y.swing(1, 0, 0), 2);
        due.is("turn 2", y.swing(2, 0, 0), 0);
        LandLines z = net(3, 1, 12, 2);
        z.demand(2, 0, 3);
        due.is("to LAND 0", z.swing(0, 0, 0), 2);
        due.is("to LAND 0, round about", z.swing(1, 0, 0), 1);
        z.cut(2, 0);
        due.is("CUT, round about at once", z.swing(0, 0, 0), 1);
        due.is("it RESTS", z.swings(1), 1);
    }
}
