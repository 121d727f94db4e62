/** Promises 16 to 23, a test for each sentence that names an edge. */
public final class EdgeTrafficTest {
    private static final int BAD = LandLines.BAD, FULL = LandLines.FULL, NONE = LandLines.NONE;
    private static final Edge edge = new Edge();

    public static void main(String[] args) {
        demandBounds();
        demandFull();
        muchBounds();
        muchOfNone();
        ledBounds();
        ledRoomLeft();
        ledByNumbers();
        ledLostBits();
        ledFewestThenLeast();
        wayBounds();
        wayEnds();
        aheadEdges();
        partsBounds();
        partsEdges();
        worstBounds();
        worstEdges();
        swingBounds();
        swingChooses();
        swingLost();
        swingTurns();
        swingsBounds();
        swingsOfNothing();
        swingsRest();
        swingsComeBackLater();
        swingsOverRoom();
        swingsLongest();
        edge.close();
    }

    /** LANDS at one place, LINES of one fibre (ROOM 5) as their ends are told, two figures each. */
    private static LandLines net(int lands, int... ends) {
        LandLines x = new LandLines();
        for (int i = 0; i < lands; i++) {
            x.land(0, 0);
        }
        for (int e : ends) {
            x.line(e / 10, e % 10, 0, 1, 0, 0);
        }
        return x;
    }

    /** DEMANDS as told: ends in two figures, then how much. */
    private static LandLines asking(LandLines x, int... endsAndMuch) {
        for (int i = 0; i + 1 < endsAndMuch.length; i += 2) {
            x.demand(endsAndMuch[i] / 10, endsAndMuch[i] % 10, endsAndMuch[i + 1]);
        }
        return x;
    }

    private static void way(LandLines x, int d, int... lines) {
        for (int i = 0; i < lines.length; i++) {
            edge.is(lines[i], x, "way", d, i);
        }
        edge.is(NONE, x, "way", d, lines.length);
    }

    private static void turn(LandLines x, int t, int d, int... lines) {
        for (int i = 0; i < lines.length; i++) {
            edge.is(lines[i], x, "swing", t, d, i);
        }
        edge.is(NONE, x, "swing", t, d, lines.length);
    }

    private static void swings(LandLines x, int from, int round, int greatest, int over) {
        edge.is(from, x, "swings", 0);
        edge.is(round, x, "swings", 1);
        edge.is(greatest, x, "swings", 2);
        edge.is(over, x, "swings", 3);
    }

    private static void demandBounds() {
        edge.sentence(16, "from a LAND to another one");
        edge.bounds(BAD, World.SOME, 0, 0, 3, "demand", 1, 2, 5);
        edge.bounds(BAD, World.SOME, 1, 0, 3, "demand", 1, 2, 5);
        edge.refused(BAD, World.NOTHING, "demand", 0, 1, 5);
        edge.sentence(16, "so much (1 to 99)");
        edge.bounds(BAD, World.SOME, 2, 1, 99, "demand", 1, 2, 5);
        LandLines x = asking(net(2, 1), 1, 1, 10, 99);
        edge.is(1, x, "led", 0);
        edge.is(99, x, "led", 1);
        edge.sentence(16, "BAD: also to the same LAND");
        for (int land = 0; land < 4; land++) {
            edge.refused(BAD, World.SOME, "demand", land, land, 5);
        }
    }

    private static void demandFull() {
        edge.sentence(16, "DEMANDS (12) are numbered as they come");
        LandLines x = net(2);
        for (int d = 0; d < 12; d++) {
            edge.is(d, x, "demand", 0, 1, 1 + d);
        }
        edge.is(FULL, x, "demand", 0, 1, 1);
        edge.is(12, x, "count", 2);
        edge.sentence(16, "FULL");
        edge.refused(FULL, World.FULL, "demand", 0, 1, 1);
        edge.refused(BAD, World.FULL, "demand", 0, 0, 1);
        edge.refused(BAD, World.FULL, "demand", 0, 8, 1);
        edge.refused(BAD, World.FULL, "demand", 0, 1, 100);
        edge.refused(BAD, World.FULL, "demand", 0, 1, 0);
    }

    private static void muchBounds() {
        edge.sentence(17, "there is no such .. DEMAND");
        edge.bounds(BAD, World.SOME, 0, 0, 2, "much", 0, 5);
        edge.bounds(BAD, World.FULL, 0, 0, 11, "much", 0, 5);
        edge.refused(BAD, World.NOTHING, "much", 0, 5);
        edge.sentence(17, "It becomes so much (0 to 99");
        edge.bounds(BAD, World.SOME, 1, 0, 99, "much", 0, 5);
        edge.sentence(17, "what it was");
        LandLines x = World.SOME.make();
        edge.is(5, x, "much", 0, 99);
        edge.is(99, x, "much", 0, 0);
        edge.is(0, x, "much", 0, 1);
        edge.is(1, x, "much", 0, 1);
        edge.is(6, x, "much", 1, 1);
    }

    private static void muchOfNone() {
        edge.sentence(17, "0: none goes");
        LandLines x = asking(net(2, 1), 1, 5, 1, 5);
        way(x, 0, 0);
        way(x, 1);
        x.much(0, 0);
        way(x, 0);
        way(x, 1, 0);
        edge.is(5, x, "lineOf", 0, 9);
        edge.is(5, x, "led", 0);
        turn(x, 0, 0);
        turn(x, 1, 0);
        turn(x, 0, 1, 0);
        edge.is(5, x, "swings", 2);
        x.much(1, 0);
        edge.is(0, x, "lineOf", 0, 9);
        edge.is(0, x, "lineOf", 0, 10);
        edge.is(0, x, "swings", 2);
        x.much(0, 5);
        turn(x, 0, 0, 0);
        x.much(0, 0);
        turn(x, 0, 0);
        x.much(0, 5);
        way(x, 0, 0);
        x.much(0, 0);
        way(x, 0);
    }

    private static void ledBounds() {
        edge.sentence(18, "LED: 0 how much goes, 1 how much is LOST, 2 DEMANDS that are LOST .. BAD.");
        edge.bounds(BAD, World.SOME, 0, 0, 2, "led", 0);
        edge.bounds(BAD, World.NOTHING, 0, 0, 2, "led", 0);
        edge.bounds(BAD, World.FULL, 0, 0, 2, "led", 0);
    }

    private static void ledRoomLeft() {
        edge.sentence(18, "with ROOM left for it in all its LINES (both ways share it)");
        LandLines x = asking(net(3, 1, 12), 2, 5);
        edge.is(5, x, "led", 0);
        x.much(0, 6);
        edge.is(0, x, "led", 0);
        edge.is(6, x, "led", 1);
        LandLines y = asking(net(2, 1), 1, 2, 10, 3, 1, 1);
        edge.is(5, y, "led", 0);
        edge.is(1, y, "led", 1);
        edge.is(4, y, "led", 2);
        LandLines z = asking(net(3, 1, 12), 1, 1, 2, 5, 12, 5);
        edge.is(6, z, "led", 0);
        edge.is(2, z, "led", 2);
        edge.sentence(18, "each goes as a whole");
        LandLines w = asking(net(2, 1, 1), 1, 6);
        edge.is(0, w, "led", 0);
        edge.is(6, w, "led", 1);
        w.change(1, 0, 2);
        edge.is(6, w, "led", 0);
        way(w, 0, 1);
    }

    private static void ledByNumbers() {
        edge.sentence(18, "DEMANDS by numbers");
        LandLines x = asking(net(2, 1), 1, 1, 1, 5);
        edge.is(2, x, "led", 2);
        LandLines y = asking(net(2, 1), 1, 5, 1, 1);
        edge.is(2, y, "led", 2);
        LandLines z = asking(net(2, 1), 1, 6, 1, 5, 1, 1);
        edge.is(5, z, "led", 2);
        edge.is(5, z, "led", 0);
        edge.is(7, z, "led", 1);
    }

    private static void ledLostBits() {
        edge.sentence(18, "2 DEMANDS that are LOST (bits; those of 0 are not)");
        LandLines x = net(2);
        for (int d = 0; d < 12; d++) {
            x.demand(0, 1, 99);
        }
        edge.is(4095, x, "led", 2);
        edge.is(12 * 99, x, "led", 1);
        edge.is(0, x, "led", 0);
        x.much(0, 0);
        x.much(11, 0);
        edge.is(4095 - 1 - 2048, x, "led", 2);
        edge.is(10 * 99, x, "led", 1);
        for (int d = 1; d < 11; d++) {
            x.much(d, 0);
        }
        edge.is(0, x, "led", 2);
        edge.is(0, x, "led", 1);
    }

    private static void ledFewestThenLeast() {
        edge.sentence(19, "the fewest LINES, then the least row of LINES; else it is LOST");
        way(asking(net(3, 1, 12, 2), 2, 1), 0, 2);
        way(asking(net(4, 13, 23, 2, 1), 3, 1), 0, 2, 1);
        way(asking(net(4, 1, 23, 13, 2), 3, 1), 0, 0, 2);
        way(asking(net(4, 1, 23, 13, 2), 30, 1), 0, 1, 3);
        way(asking(net(2, 1, 1, 10), 10, 1, 10, 5, 10, 5, 10, 4), 0, 0);
        LandLines x = asking(net(2, 1, 1, 10), 10, 1, 10, 5, 10, 5, 10, 4, 1, 1);
        way(x, 1, 1);
        way(x, 2, 2);
        way(x, 3, 0);
        way(x, 4);
        x.cut(0, 0);
        way(x, 0, 1);
        way(x, 1, 2);
        way(x, 2);
        way(x, 3, 1);
    }

    private static void wayBounds() {
        edge.sentence(19, "BAD: also i below 0");
        edge.bounds(BAD, World.SOME, 0, 0, 2, "way", 0, 0);
        edge.bounds(BAD, World.FULL, 0, 0, 11, "way", 0, 0);
        edge.refused(BAD, World.NOTHING, "way", 0, 0);
        edge.refused(BAD, World.SOME, "way", 0, -1);
        edge.refused(BAD, World.SOME, "way", 0, Integer.MIN_VALUE);
        edge.sentence(19, "NONE");
        edge.refused(NONE, World.SOME, "way", 0, 7);
        edge.refused(NONE, World.SOME, "way", 0, Integer.MAX_VALUE);
        edge.refused(NONE, World.SOME, "way", 1, 0);
        edge.sentence(19, "BAD: also i below 0; NONE");
        edge.refused(BAD, World.SOME, "way", 1, -1);
        edge.refused(BAD, World.SOME, "way", 3, 7);
    }

    private static void wayEnds() {
        edge.sentence(19, "The LINE at place i (from 0 on) of the WAY of a DEMAND");
        LandLines x = asking(net(8, 1, 12, 23, 34, 45, 56, 67), 7, 5, 70, 1);
        way(x, 0, 0, 1, 2, 3, 4, 5, 6);
        way(x, 1);
        x.much(0, 4);
        way(x, 1, 6, 5, 4, 3, 2, 1, 0);
        edge.is(5, x, "lineOf", 3, 9);
    }

    private static void aheadEdges() {
        edge.sentence(4, "AHEAD of a LINE: what is LOST more, if it had no ROOM");
        LandLines x = net(2, 1, 1);
        edge.is(0, x, "lineOf", 0, 10);
        asking(x, 1, 5);
        edge.is(0, x, "lineOf", 0, 10);
        edge.is(0, x, "lineOf", 1, 10);
        asking(x, 1, 4);
        edge.is(4, x, "lineOf", 0, 10);
        edge.is(4, x, "lineOf", 1, 10);
        LandLines y = net(2, 1);
        y.change(0, 0, 8);
        Due.rules(y, "room 50;");
        for (int d = 0; d < 12; d++) {
            y.demand(0, 1, 99);
        }
        edge.is(4 * 99, y, "lineOf", 0, 9);
        edge.is(4 * 99, y, "lineOf", 0, 10);
        LandLines z = asking(net(3, 1, 12), 2, 1, 12, 5);
        edge.is(-4, z, "lineOf", 0, 10);
    }

    private static void partsBounds() {
        edge.sentence(20, "PARTS by LINES l and m and a ROOM r (0 to 400). BAD.");
        edge.bounds(BAD, World.SOME, 0, 0, 3, "parts", 0, 1, 5);
        edge.bounds(BAD, World.SOME, 1, 0, 3, "parts", 0, 1, 5);
        edge.bounds(BAD, World.FULL, 0, 0, 11, "parts", 0, 1, 5);
        edge.bounds(BAD, World.FULL, 1, 0, 11, "parts", 0, 1, 5);
        edge.bounds(BAD, World.SOME, 2, 0, 400, "parts", 0, 1, 5);
        edge.refused(BAD, World.NOTHING, "parts", 0, 0, 0);
    }

    private static void partsEdges() {
        edge.sentence(20, "PARTS by two LINES (one and the same well)");
        LandLines x = net(3, 1, 1, 12);
        edge.is(1, x, "parts", 0, 0, 0);
        edge.is(1, x, "parts", 1, 1, 0);
        edge.is(2, x, "parts", 2, 2, 0);
        edge.is(2, x, "parts", 0, 1, 0);
        edge.is(2, x, "parts", 1, 0, 0);
        edge.is(2, x, "parts", 0, 2, 0);
        edge.sentence(20, "joined by LINES that have that ROOM or more");
        edge.is(1, x, "parts", 0, 0, 5);
        edge.is(3, x, "parts", 0, 0, 6);
        edge.is(3, x, "parts", 0, 0, 400);
        x.cut(1, 0);
        edge.is(2, x, "parts", 0, 0, 1);
        edge.is(1, x, "parts", 0, 0, 0);
        x.year(81);
        edge.is(3, x, "parts", 0, 0, 1);
        edge.is(1, x, "parts", 0, 0, 0);
        LandLines y = net(8, 1, 12, 23, 34, 45, 56, 67, 70);
        Due.rules(y, "room 50;");
        for (int l = 0; l < 8; l++) {
            y.change(l, 0, 8);
        }
        edge.is(1, y, "parts", 3, 3, 400);
        edge.is(2, y, "parts", 3, 7, 400);
        y.change(0, 0, 7);
        edge.is(3, y, "parts", 3, 7, 400);
        edge.is(2, y, "parts", 3, 7, 350);
        edge.sentence(20, "how many heaps LANDS are in");
        edge.is(8, net(8, 1), "parts", 0, 0, 0);
        edge.is(7, net(8, 1, 1), "parts", 0, 0, 0);
        edge.is(7, net(8, 67, 67), "parts", 0, 0, 0);
    }

    private static void worstBounds() {
        edge.sentence(21, "ROOM r .. (what 0), PARTS (1). BAD");
        edge.bounds(BAD, World.SOME, 0, 0, 400, "worst", 5, 0);
        edge.bounds(BAD, World.SOME, 1, 0, 1, "worst", 5, 0);
        edge.bounds(BAD, World.FULL, 1, 0, 1, "worst", 5, 0);
        edge.sentence(21, "NONE: there are no two LINES");
        for (int what = 0; what < 2; what++) {
            edge.is(NONE, World.NOTHING, "worst", 0, what);
            edge.is(NONE, net(8), "worst", 400, what);
            edge.is(NONE, net(2, 1), "worst", 0, what);
        }
        edge.is(1, net(2, 1, 1), "worst", 0, 0);
        edge.is(2, net(2, 1, 1), "worst", 0, 1);
        edge.sentence(21, "BAD; NONE");
        edge.refused(BAD, World.NOTHING, "worst", 401, 0);
        edge.refused(BAD, World.NOTHING, "worst", -1, 1);
        edge.refused(BAD, World.NOTHING, "worst", 0, 2);
        edge.refused(BAD, World.NOTHING, "worst", 0, -1);
    }

    private static void worstEdges() {
        edge.sentence(21, "100 times the less and the other one, the least of several");
        LandLines x = net(3, 1, 1, 1, 1, 1, 1, 1, 1, 1, 1, 12, 20);
        edge.is(1011, x, "worst", 0, 0);
        edge.is(2, x, "worst", 0, 1);
        edge.is(1, x, "worst", 6, 0);
        edge.is(3, x, "worst", 6, 1);
        x.cut(0, 0);
        edge.is(1011, x, "worst", 0, 0);
        edge.is(1011, x, "worst", 5, 0);
        for (int l = 1; l < 10; l++) {
            x.change(l, 0, l < 8 ? 1 : 2);
        }
        edge.is(809, x, "worst", 10, 0);
        edge.is(3, x, "worst", 10, 1);
        edge.is(1, net(3, 1, 12, 20), "worst", 0, 0);
        edge.is(1, net(4, 1, 12, 23), "worst", 0, 0);
        edge.is(203, net(4, 1, 1, 12, 23), "worst", 0, 0);
    }

    private static void swingBounds() {
        edge.sentence(22, "in turn t (0 to 60) of SWING");
        edge.bounds(BAD, World.SOME, 0, 0, 60, "swing", 5, 0, 0);
        edge.bounds(BAD, World.FULL, 0, 0, 60, "swing", 5, 0, 0);
        edge.sentence(22, "there is no such .. DEMAND");
        edge.bounds(BAD, World.SOME, 1, 0, 2, "swing", 5, 0, 0);
        edge.bounds(BAD, World.FULL, 1, 0, 11, "swing", 5, 0, 0);
        edge.refused(BAD, World.NOTHING, "swing", 0, 0, 0);
        edge.sentence(22, "BAD: also i below 0; NONE");
        edge.refused(BAD, World.SOME, "swing", 0, 0, -1);
        edge.refused(BAD, World.SOME, "swing", 0, 1, Integer.MIN_VALUE);
        edge.refused(NONE, World.SOME, "swing", 0, 0, 7);
        edge.refused(NONE, World.SOME, "swing", 60, 0, Integer.MAX_VALUE);
        edge.refused(BAD, World.SOME, "swing", 61, 0, 7);
        edge.refused(BAD, World.SOME, "swing", 0, 3, 7);
    }

    private static void swingChooses() {
        edge.sentence(22, "whose sum of 1 and LOAD, LINE by LINE, is least, then the fewest LINES, then the least row");
        LandLines x = asking(net(3, 1, 2, 21), 1, 1);
        turn(x, 0, 0, 0);
        turn(x, 1, 0, 0);
        x.much(0, 2);
        turn(x, 1, 0, 1, 2);
        LandLines y = asking(net(4, 1, 13, 2, 23, 3), 3, 2);
        turn(y, 0, 0, 4);
        turn(y, 1, 0, 0, 1);
        y.much(0, 1);
        turn(y, 1, 0, 4);
        LandLines z = asking(net(4, 2, 13, 1, 23), 3, 3);
        turn(z, 0, 0, 0, 3);
        turn(z, 1, 0, 2, 1);
        edge.sentence(22, "the WAY over LINES with ROOM above 0");
        LandLines w = asking(net(3, 1, 2, 21), 1, 99);
        turn(w, 0, 0, 0);
        w.cut(0, 0);
        turn(w, 0, 0, 1, 2);
        turn(w, 1, 0, 1, 2);
        Due.rules(w, "room 1;");
        turn(w, 0, 0, 1, 2);
        swings(w, 0, 1, 99, 2 | 4);
        edge.sentence(22, "every DEMAND chooses at once");
        LandLines v = asking(net(2, 1, 1), 1, 9, 10, 9, 1, 9);
        for (int d = 0; d < 3; d++) {
            turn(v, 0, d, 0);
            turn(v, 1, d, 1);
            turn(v, 2, d, 0);
        }
    }

    private static void swingLost() {
        edge.sentence(22, "(none: it is LOST then)");
        LandLines x = asking(net(3, 1), 2, 5, 1, 5);
        turn(x, 0, 0);
        turn(x, 60, 0);
        turn(x, 0, 1, 0);
        swings(x, 0, 1, 5, 0);
        x.cut(0, 0);
        turn(x, 0, 1);
        swings(x, 0, 1, 0, 0);
        LandLines y = asking(net(2, 1), 1, 5);
        y.year(80);
        turn(y, 0, 0, 0);
        y.year(81);
        turn(y, 0, 0);
    }

    private static void swingTurns() {
        edge.sentence(22, "LOAD of a LINE: what goes by it in the turn ahead (0 ahead of turn 0)");
        LandLines x = asking(net(3, 1, 12, 2), 1, 5, 12, 2);
        turn(x, 0, 0, 0);
        turn(x, 0, 1, 1);
        turn(x, 1, 0, 2, 1);
        turn(x, 1, 1, 1);
        for (int t = 2; t < 60; t += 2) {
            turn(x, t, 0, 0);
            turn(x, t, 1, 0, 2);
            turn(x, t + 1, 0, 2, 1);
            turn(x, t + 1, 1, 1);
        }
        turn(x, 60, 1, 0, 2);
        LandLines y = asking(net(8, 1, 12, 23, 34, 45, 56, 67), 70, 99);
        turn(y, 0, 0, 6, 5, 4, 3, 2, 1, 0);
        turn(y, 60, 0, 6, 5, 4, 3, 2, 1, 0);
    }

    private static void swingsBounds() {
        edge.sentence(23, "SWING: 0 the turn .. 3 LINES .. BAD");
        edge.bounds(BAD, World.SOME, 0, 0, 3, "swings", 0);
        edge.bounds(BAD, World.NOTHING, 0, 0, 3, "swings", 0);
        edge.bounds(BAD, World.FULL, 0, 0, 3, "swings", 0);
    }

    private static void swingsOfNothing() {
        edge.sentence(23, "SWING: 0 the turn from which on it comes back, 1 ROUND");
        swings(new LandLines(), 0, 1, 0, 0);
        swings(net(8), 0, 1, 0, 0);
        swings(net(2, 1), 0, 1, 0, 0);
        swings(asking(net(2), 1, 99), 0, 1, 0, 0);
    }

    private static void swingsRest() {
        edge.sentence(23, "ROUND: how many turns later the first such one is (1: it RESTS)");
        swings(asking(net(2, 1), 1, 5), 0, 1, 5, 0);
        swings(asking(net(2, 1), 1, 6), 0, 1, 6, 1);
        swings(asking(net(2, 1, 1), 1, 5), 0, 2, 5, 0);
        swings(asking(net(2, 1, 1), 1, 6), 0, 2, 6, 3);
        LandLines y = net(2, 1, 1);
        for (int d = 0; d < 12; d++) {
            y.demand(d % 2, 1 - d % 2, 99);
        }
        swings(y, 0, 2, 12 * 99, 3);
    }

    private static void swingsComeBackLater() {
        edge.sentence(23, "It comes back from the first turn on whose LOADS are those of a later turn");
        swings(asking(net(4, 2, 13, 23, 1), 1, 4, 30, 1, 13, 2), 1, 1, 4, 0);
        swings(asking(net(3, 1, 12, 2), 1, 5, 12, 2), 1, 2, 7, 3);
        swings(asking(net(4, 12, 2, 12, 3, 13), 32, 1, 23, 1), 2, 2, 2, 0);
        swings(asking(net(4, 12, 1, 3, 23, 3), 2, 2, 32, 4, 13, 3), 3, 2, 9, 1 | 2 | 4 | 8);
    }

    private static void swingsOverRoom() {
        edge.sentence(23, "2 the greatest LOAD in the turns of a ROUND from there on");
        swings(asking(net(4, 23, 12, 1, 3, 3), 2, 1, 1, 2), 1, 2, 2, 0);
        swings(asking(net(3, 1, 2, 12), 20, 1, 21, 5), 0, 2, 6, 2);
        edge.sentence(23, "3 LINES whose LOAD is above ROOM in any of these turns (bits)");
        swings(asking(net(4, 23, 12, 3, 1, 23), 21, 5, 2, 1), 2, 2, 6, 1 | 2 | 4);
        LandLines x = net(2, 1, 1, 1, 1, 1, 1, 1, 1, 1, 1, 1, 1);
        for (int l = 0; l < 11; l++) {
            x.cut(l, 0);
        }
        edge.is(8, x, "count", 3);
        asking(x, 1, 6);
        swings(x, 0, 2, 6, 256 | 512);
    }

    /** The longest row of turns until LOADS came back (in turn 38) that long searches have found; none was SPENT. */
    private static void swingsLongest() {
        edge.sentence(23, "SPENT: no LOADS came back up to turn 60");
        LandLines x = asking(net(8, 23, 6, 53, 34, 41, 12, 47, 17, 50, 20, 36, 70), 51, 83, 27, 19, 41, 40, 62, 81,
                75, 55, 37, 75, 65, 51, 76, 8, 21, 4, 46, 39, 61, 6, 3, 2);
        swings(x, 36, 2, 289, 4095);
        LandLines y = asking(net(8, 71, 63, 24, 50, 30, 40, 65, 23, 21, 37, 46, 51), 26, 10, 72, 73, 7, 40, 61, 51,
                67, 15, 24, 18, 45, 23, 6, 99, 71, 73, 12, 35, 14, 61, 31, 1);
        swings(y, 33, 2, 317, 4095);
        edge.is(NONE, y, "swing", 60, 11, 7);
        edge.is(BAD, y, "swing", 61, 11, 7);
    }
}
