/** Promises 29 to 33, a test for each sentence that names an edge. */
public final class EdgeShipsTest {
    private static final int BAD = LandLines.BAD, STATE = LandLines.STATE, FULL = LandLines.FULL, NONE = LandLines.NONE;
    private static final Edge edge = new Edge();

    public static void main(String[] args) {
        shipBounds();
        shipFull();
        shipOfBounds();
        shipOfAtFirst();
        sendBounds();
        sendNotOpen();
        sendInHands();
        sendLeave();
        sendReel();
        sendHours();
        sendWhenFree();
        sendAbove999();
        orderBounds();
        orderMoreThanSeven();
        orderOfNothing();
        orderCanNotBeDone();
        orderReelForAll();
        orderLeastShips();
        orderWaits();
        orderWeights();
        orderInHands();
        plainBounds();
        plainFreeFirst();
        plainMendedFirst();
        plainStandsStill();
        plainSeven();
        edge.close();
    }

    /** LANDS along x, 10 steps apart, with a DRY LINE of ROOM 5 from each to the next. */
    private static LandLines row(int lands) {
        LandLines x = new LandLines();
        for (int i = 0; i < lands; i++) {
            x.land(10 * i, 0);
        }
        for (int i = 0; i + 1 < lands; i++) {
            x.line(i, i + 1, 0, 1, 0, 0);
        }
        return x;
    }

    /** A BREAK just at the first LAND of each LINE told, for which a ship needs 3 of its REEL. */
    private static LandLines cutAt(LandLines x, int... lines) {
        for (int l : lines) {
            int b = x.cut(l, 0);
            x.echo(b, 0, 0, 0);
        }
        return x;
    }

    private static void shipBounds() {
        edge.sentence(29, "in a LAND (at its x, y)");
        edge.bounds(BAD, World.SOME, 0, 0, 3, "ship", 0, 5, 3);
        edge.refused(BAD, World.NOTHING, "ship", 0, 5, 3);
        edge.sentence(29, "REEL (0 to 99)");
        edge.bounds(BAD, World.SOME, 1, 0, 99, "ship", 0, 5, 3);
        edge.sentence(29, "LEAVE (bits: 1 DRY, 2 WET)");
        edge.bounds(BAD, World.SOME, 2, 0, 3, "ship", 0, 5, 3);
    }

    private static void shipFull() {
        edge.sentence(29, "SHIPS (3) are numbered as they come");
        LandLines x = row(1);
        for (int s = 0; s < 3; s++) {
            edge.is(s, x, "ship", 0, 0, 0);
        }
        edge.is(FULL, x, "ship", 0, 0, 0);
        edge.is(3, x, "count", 5);
        edge.sentence(29, "BAD; FULL");
        edge.refused(FULL, World.FULL, "ship", 0, 0, 0);
        edge.refused(BAD, World.FULL, "ship", 8, 0, 0);
        edge.refused(BAD, World.FULL, "ship", 0, 100, 0);
        edge.refused(BAD, World.FULL, "ship", 0, 0, 4);
    }

    private static void shipOfBounds() {
        edge.sentence(30, "Of a SHIP: 0 x, 1 y, 2 REEL left, 3 LEAVE, 4 the HOUR from which it is free .. BAD.");
        edge.bounds(BAD, World.SOME, 0, 0, 1, "shipOf", 0, 0);
        edge.bounds(BAD, World.FULL, 0, 0, 2, "shipOf", 0, 0);
        edge.bounds(BAD, World.SOME, 1, 0, 4, "shipOf", 0, 0);
        edge.refused(BAD, World.NOTHING, "shipOf", 0, 0);
    }

    private static void shipOfAtFirst() {
        edge.sentence(30, "4 the HOUR from which it is free (0 at first)");
        LandLines x = new LandLines();
        x.land(0, 99);
        x.land(99, 0);
        x.hour(999);
        x.ship(0, 99, 3);
        x.ship(1, 0, 0);
        int[][] want = {{0, 99, 99, 3, 0}, {99, 0, 0, 0, 0}};
        for (int s = 0; s < 2; s++) {
            for (int what = 0; what < 5; what++) {
                edge.is(want[s][what], x, "shipOf", s, what);
            }
        }
    }

    private static void sendBounds() {
        edge.sentence(31, "there is no such .. BREAK, SHIP");
        edge.bounds(BAD, World.SOME, 0, 0, 1, "send", 0, 2);
        edge.bounds(BAD, World.SOME, 1, 0, 2, "send", 1, 2);
        edge.bounds(BAD, World.FULL, 0, 0, 2, "send", 0, 2);
        edge.bounds(BAD, World.FULL, 1, 0, 7, "send", 1, 2);
        edge.refused(BAD, World.NOTHING, "send", 0, 0);
    }


    private static void sendNotOpen() {
        edge.sentence(31, "STATE: it is not OPEN");
        edge.refused(STATE, World.FULL, "send", 0, 0);
        edge.refused(STATE, World.FULL, "send", 1, 0);
        LandLines x = cutAt(row(2), 0);
        x.ship(0, 99, 1);
        x.ship(0, 99, 1);
        edge.is(4, x, "send", 0, 0);
        x.hour(4);
        edge.is(STATE, x, "send", 1, 0);
        edge.is(STATE, x, "send", 0, 0);
    }

    private static void sendInHands() {
        edge.sentence(31, "in a ship's hands");
        edge.refused(STATE, World.SOME, "send", 0, 0);
        edge.refused(STATE, World.FULL, "send", 0, 1);
        edge.refused(STATE, World.FULL, "send", 1, 1);
        LandLines x = cutAt(row(2), 0);
        x.ship(0, 99, 1);
        x.ship(0, 99, 1);
        x.send(0, 0);
        x.hour(3);
        edge.is(1, x, "breakOf", 0, 8);
        edge.is(STATE, x, "send", 1, 0);
    }

    private static void sendLeave() {
        edge.sentence(31, "or LEAVE or REEL do not let it");
        edge.refused(STATE, World.FULL, "send", 2, 3);
        LandLines x = new LandLines();
        x.land(0, 0);
        x.land(0, 0);
        x.line(0, 1, 0, 1, 0, 0);
        x.line(0, 1, 1, 1, 0, 0);
        for (int b = 0; b < 8; b++) {
            x.cut(b % 2, 0);
        }
        x.ship(0, 99, 0);
        x.ship(0, 99, 1);
        x.ship(0, 99, 2);
        edge.is(STATE, x, "send", 0, 0);
        edge.is(STATE, x, "send", 0, 1);
        edge.is(STATE, x, "send", 1, 1);
        edge.is(STATE, x, "send", 2, 0);
        edge.is(4, x, "send", 1, 0);
        edge.is(4, x, "send", 2, 1);
        LandLines y = new LandLines();
        y.land(0, 0);
        y.land(0, 0);
        y.line(0, 1, 0, 1, 0, 0);
        y.line(0, 1, 1, 1, 0, 0);
        y.cut(0, 0);
        y.cut(1, 0);
        y.ship(0, 99, 3);
        edge.is(4, y, "send", 0, 0);
        edge.is(8, y, "send", 0, 1);
    }

    private static void sendReel() {
        edge.sentence(31, "REEL: 3 and the greatest SPOT less the least");
        edge.refused(STATE, World.SOME, "send", 0, 1);
        LandLines x = row(2);
        for (int b = 0; b < 3; b++) {
            x.cut(0, 0);
        }
        x.ship(0, 12, 1);
        x.ship(0, 13, 1);
        edge.is(STATE, x, "send", 0, 0);
        edge.is(12, x, "shipOf", 0, 2);
        edge.is(4, x, "send", 1, 0);
        edge.is(0, x, "shipOf", 1, 2);
        edge.is(STATE, x, "send", 1, 1);
        x.echo(1, 0, 4, 4);
        edge.is(4, x, "send", 0, 1);
        edge.is(1, x, "shipOf", 0, 2);
        x.echo(2, 0, 0, 0);
        edge.is(STATE, x, "send", 0, 2);
        x.ship(0, 2, 3);
        edge.is(STATE, x, "send", 2, 2);
        LandLines y = cutAt(row(2), 0);
        y.ship(0, 3, 1);
        edge.is(4, y, "send", 0, 0);
        edge.is(0, y, "shipOf", 0, 2);
    }

    /** The hours that a ship in the first LAND needs for a BREAK that is so many steps away. */
    private static void hours(String rules, int steps, int want) {
        LandLines x = row(2);
        Due.rules(x, rules);
        x.cut(0, 0);
        x.echo(0, 0, steps, 0);
        x.ship(0, 3, 1);
        edge.is(want, x, "send", 0, 0);
        edge.is(steps, x, "shipOf", 0, 0);
        edge.is(want, x, "shipOf", 0, 4);
    }

    private static void sendHours() {
        edge.sentence(31, "HOW FAR by sail, divided up, and mend hours");
        hours("mend 1;sail 3;", 0, 1);
        hours("mend 1;sail 3;", 1, 2);
        hours("mend 1;sail 3;", 2, 2);
        hours("mend 1;sail 3;", 3, 2);
        hours("mend 1;sail 3;", 4, 3);
        hours("mend 1;sail 3;", 6, 3);
        hours("mend 1;sail 3;", 7, 4);
        hours("mend 20;sail 1;", 10, 30);
        hours("mend 20;sail 20;", 10, 21);
        hours("mend 1;sail 10;", 10, 2);
        hours("mend 1;sail 9;", 10, 3);
        hours("", 9, 4 + 5);
        edge.sentence(31, "A ship MENDS a BREAK at the PLACE of its least SPOT");
        LandLines x = new LandLines();
        x.land(99, 99);
        x.land(0, 0);
        x.line(0, 1, 1, 1, 0, 0);
        x.cut(0, 0);
        x.echo(0, 1, 10, 7);
        x.ship(1, 99, 2);
        edge.is(4 + 9, x, "send", 0, 0);
        edge.is(0, x, "shipOf", 0, 0);
        edge.is(17, x, "shipOf", 0, 1);
        edge.is(99 - 17, x, "shipOf", 0, 2);
    }

    private static void sendWhenFree() {
        edge.sentence(31, "beginning in THE HOUR, or when it is free");
        LandLines x = cutAt(row(3), 0, 1, 0);
        x.hour(10);
        x.ship(0, 99, 1);
        edge.is(14, x, "send", 0, 0);
        x.hour(13);
        edge.is(14 + 5 + 4, x, "send", 0, 1);
        x.hour(23);
        edge.is(23 + 5 + 4, x, "send", 0, 2);
        LandLines y = cutAt(row(2), 0, 0);
        y.ship(0, 99, 1);
        y.send(0, 0);
        y.hour(5);
        edge.is(9, y, "send", 0, 1);
    }

    private static void sendAbove999() {
        edge.sentence(31, "the HOUR when it is MENDED (above 999, too)");
        LandLines x = new LandLines();
        x.land(0, 0);
        x.land(99, 99);
        x.line(0, 1, 0, 1, 0, 0);
        x.line(1, 0, 0, 1, 0, 0);
        Due.rules(x, "sail 1;mend 20;");
        x.hour(999);
        for (int b = 0; b < 8; b++) {
            x.cut(b % 2, 999);
            x.echo(b, 0, 0, 0);
        }
        x.ship(0, 99, 1);
        int hour = 999 + 20;
        for (int b = 0; b < 8; b++) {
            edge.is(hour, x, "send", 0, b);
            edge.is(hour, x, "breakOf", b, 6);
            edge.is(hour, x, "shipOf", 0, 4);
            edge.is(1, x, "breakOf", b, 8);
            hour += 198 + 20;
        }
        edge.is(99 - 24, x, "shipOf", 0, 2);
        LandLines y = cutAt(row(2), 0);
        y.hour(995);
        y.ship(0, 99, 1);
        edge.is(999, y, "send", 0, 0);
        y.hour(999);
        edge.is(0, y, "breakOf", 0, 8);
        LandLines z = cutAt(row(2), 0);
        z.hour(996);
        z.ship(0, 99, 1);
        edge.is(1000, z, "send", 0, 0);
        z.hour(999);
        edge.is(1, z, "breakOf", 0, 8);
    }

    private static void orderBounds() {
        edge.sentence(32, "what 0 the COST, 1 BREAKS in it (bits), 10 and b: the SHIP of BREAK b .. BAD");
        long[] bad = {-1, 2, 9, 13, Integer.MIN_VALUE, Integer.MIN_VALUE + 9, Integer.MIN_VALUE + 10, Integer.MAX_VALUE};
        for (long what : bad) {
            edge.refused(BAD, World.SOME, "order", what);
        }
        for (long what : new long[] {-1, 2, 9, 18}) {
            edge.refused(BAD, World.FULL, "order", what);
        }
        edge.refused(BAD, World.NOTHING, "order", 10);
        edge.is(6, World.SOME, "order", 1);
        edge.is(NONE, World.SOME, "order", 10);
        edge.is(1, World.SOME, "order", 11);
        edge.is(0, World.SOME, "order", 12);
        edge.is(252, World.FULL, "order", 1);
        edge.is(NONE, World.FULL, "order", 10);
        edge.is(NONE, World.FULL, "order", 11);
    }

    private static void orderMoreThanSeven() {
        edge.sentence(32, "STATE: more than 7");
        for (long what : new long[] {0, 1, 10, 14, 17}) {
            edge.refused(STATE, World.EIGHT_OPEN, "order", what);
        }
        LandLines x = cutAt(row(2), 0, 0, 0, 0, 0, 0, 0);
        edge.is(127, x, "order", 1);
        edge.is(NONE, x, "order", 0);
        x.ship(0, 99, 1);
        edge.is(0, x, "order", 0);
        cutAt(x, 0);
        edge.is(STATE, x, "order", 0);
        edge.is(STATE, x, "order", 1);
        x.send(0, 2);
        edge.is(255 - 4, x, "order", 1);
        edge.is(0, x, "order", 0);
        edge.sentence(32, "BAD; STATE: more than 7");
        for (long what : new long[] {-1, 2, 9, 18}) {
            edge.refused(BAD, World.EIGHT_OPEN, "order", what);
        }
        edge.sentence(32, "STATE: more than 7; NONE");
        LandLines y = cutAt(row(2), 0, 0, 0, 0, 0, 0, 0, 0);
        edge.is(STATE, y, "order", 0);
        edge.is(STATE, y, "order", 10);
    }

    private static void orderOfNothing() {
        edge.sentence(32, "all BREAKS that are OPEN and in no ship's hands");
        for (int what = 0; what < 2; what++) {
            edge.is(0, World.NOTHING, "order", what);
        }
        LandLines x = cutAt(row(2), 0);
        x.demand(0, 1, 5);
        x.ship(1, 99, 1);
        edge.is(5 * 9, x, "order", 0);
        x.send(0, 0);
        edge.is(0, x, "order", 0);
        edge.is(0, x, "order", 1);
        edge.is(NONE, x, "order", 10);
        x.hour(9);
        edge.is(0, x, "order", 0);
        edge.is(0, x, "order", 1);
        edge.is(NONE, x, "order", 10);
    }

    private static void orderCanNotBeDone() {
        edge.sentence(32, "NONE (not 1): they can not all be done");
        LandLines x = cutAt(row(2), 0);
        edge.is(NONE, x, "order", 0);
        edge.is(1, x, "order", 1);
        edge.is(NONE, x, "order", 10);
        x.ship(0, 99, 2);
        edge.is(NONE, x, "order", 0);
        x.ship(0, 2, 3);
        edge.is(NONE, x, "order", 0);
        edge.is(1, x, "order", 1);
        edge.is(NONE, x, "order", 10);
        x.ship(0, 3, 1);
        edge.is(0, x, "order", 0);
        edge.is(2, x, "order", 10);
    }

    private static void orderReelForAll() {
        edge.sentence(32, "by LEAVE, REEL for all it does");
        LandLines x = cutAt(row(2), 0, 0, 0);
        x.ship(0, 8, 1);
        edge.is(NONE, x, "order", 0);
        x.ship(0, 3, 1);
        edge.is(0, x, "order", 0);
        edge.is(0, x, "order", 10);
        edge.is(0, x, "order", 11);
        edge.is(1, x, "order", 12);
        LandLines y = cutAt(row(2), 0, 0, 0, 0, 0, 0, 0);
        y.ship(0, 20, 1);
        edge.is(NONE, y, "order", 0);
        LandLines z = cutAt(row(2), 0, 0, 0, 0, 0, 0, 0);
        z.ship(0, 21, 1);
        edge.is(0, z, "order", 0);
        edge.is(0, z, "order", 16);
        LandLines w = cutAt(row(2), 0, 0, 0, 0, 0, 0, 0);
        w.ship(0, 6, 1);
        w.ship(0, 6, 1);
        w.ship(0, 8, 1);
        edge.is(NONE, w, "order", 0);
        LandLines v = cutAt(row(2), 0, 0, 0, 0, 0, 0, 0);
        v.ship(0, 6, 1);
        v.ship(0, 6, 1);
        v.ship(0, 9, 1);
        int[] ships = {0, 0, 1, 1, 2, 2, 2};
        for (int b = 0; b < 7; b++) {
            edge.is(ships[b], v, "order", 10 + b);
        }
    }

    private static void orderLeastShips() {
        edge.sentence(32, "(Of several the one by which BREAK by BREAK the ship is the least.)");
        LandLines x = cutAt(row(3), 0, 0);
        x.ship(0, 99, 1);
        x.ship(0, 99, 1);
        x.ship(0, 99, 1);
        for (int b = 0; b < 2; b++) {
            edge.is(0, x, "order", 10 + b);
        }
        x.demand(0, 1, 5);
        edge.is(5 * 4 + 5 * 4, x, "order", 0);
        edge.is(0, x, "order", 10);
        edge.is(1, x, "order", 11);
        x.much(0, 0);
        edge.is(0, x, "order", 11);
        LandLines y = cutAt(row(4), 0, 2, 1);
        y.ship(2, 99, 1);
        y.ship(0, 99, 1);
        y.demand(0, 1, 1);
        y.demand(2, 3, 1);
        edge.is(4 + 4, y, "order", 0);
        edge.is(1, y, "order", 10);
        edge.is(0, y, "order", 11);
        edge.is(0, y, "order", 12);
    }

    private static void orderWaits() {
        edge.sentence(32, "each does its own one behind another, beginning in THE HOUR, or when it is free");
        LandLines x = cutAt(row(3), 0, 1, 1);
        x.demand(0, 1, 2);
        x.demand(1, 2, 3);
        x.hour(50);
        x.ship(1, 99, 1);
        // 4, 4 + 4, then 10 steps back
        edge.is(3 * 4 + 3 * 8 + 2 * (8 + 9), x, "order", 0);
        x.send(0, 0);
        edge.is(6, x, "order", 1);
        edge.is(3 * (9 + 9) + 3 * (9 + 9 + 4), x, "order", 0);
        x.hour(55);
        edge.is(3 * (4 + 9) + 3 * (4 + 9 + 4), x, "order", 0);
        x.hour(59);
        edge.is(3 * 9 + 3 * 13, x, "order", 0);
        x.hour(500);
        edge.is(3 * 9 + 3 * 13, x, "order", 0);
        x.hour(999);
        edge.is(3 * 9 + 3 * 13, x, "order", 0);
    }

    private static void orderWeights() {
        edge.sentence(32, "WEIGHT of a BREAK: AHEAD of its LINE, all LINES being whole (none CUT; for DIM ones 0)");
        LandLines x = row(2);
        x.line(0, 1, 0, 1, 0, 0);
        x.demand(0, 1, 5);
        cutAt(x, 0, 1);
        x.ship(0, 99, 1);
        edge.is(5, x, "led", 1);
        edge.is(0, x, "order", 0);
        edge.is(0, x, "plain", 0);
        x.demand(0, 1, 4);
        edge.is(4 * 4 + 4 * 8, x, "order", 0);
        edge.is(4 * 4 + 4 * 8, x, "plain", 0);
        x.change(1, 20, 1);
        x.year(31);
        edge.is(5 * 4, x, "order", 0);
        edge.is(5 * 4, x, "plain", 0);
        x.year(71);
        edge.is(0, x, "order", 0);
        edge.is(0, x, "plain", 0);
    }

    private static void orderInHands() {
        edge.sentence(32, "10 and b: the SHIP of BREAK b (NONE: not in it)");
        LandLines x = cutAt(row(4), 0, 1, 2);
        x.ship(0, 99, 1);
        x.ship(0, 99, 1);
        edge.is(4 + 5, x, "send", 1, 1);
        edge.is(5, x, "order", 1);
        edge.is(0, x, "order", 10);
        edge.is(NONE, x, "order", 11);
        edge.is(0, x, "order", 12);
        edge.is(BAD, x, "order", 13);
    }

    private static void plainBounds() {
        edge.sentence(33, "its COST (what 0), how many BREAKS stay (1 .. BAD");
        edge.bounds(BAD, World.SOME, 0, 0, 1, "plain", 0);
        edge.bounds(BAD, World.NOTHING, 0, 0, 1, "plain", 0);
        edge.sentence(33, "BAD; STATE: more than 7");
        edge.bounds(BAD, World.EIGHT_OPEN, 0, 0, 1, "plain", 0);
        edge.refused(STATE, World.EIGHT_OPEN, "plain", 0);
        edge.refused(STATE, World.EIGHT_OPEN, "plain", 1);
    }

    private static void plainFreeFirst() {
        edge.sentence(33, "the SHIP that is free first (of several the least)");
        LandLines x = cutAt(row(4), 0, 2);
        x.demand(2, 3, 5);
        x.ship(0, 99, 1);
        x.ship(2, 99, 1);
        // ship 0 takes BREAK 0 (4 hours), ship 1 BREAK 1 (4)
        edge.is(5 * 4, x, "plain", 0);
        LandLines y = cutAt(row(4), 2);
        y.demand(2, 3, 5);
        y.ship(0, 99, 1);
        y.ship(2, 99, 1);
        // the least ship goes, though the other one is there already
        edge.is(5 * 14, y, "plain", 0);
        edge.is(5 * 4, y, "order", 0);
        LandLines z = cutAt(row(4), 0, 0, 2);
        z.demand(0, 1, 1);
        z.demand(2, 3, 5);
        z.ship(0, 99, 1);
        z.ship(0, 99, 1);
        z.send(0, 0);
        // ship 1 is free first: BREAK 1 in 4, as ship 0: which goes on to BREAK 2
        edge.is(1 * 4 + 5 * (4 + 14), z, "plain", 0);
        z.hour(2);
        // ship 0 is free in 2 hours, goes in 4 + 2
        edge.is(1 * 4 + 5 * (2 + 14), z, "plain", 0);
    }

    private static void plainMendedFirst() {
        edge.sentence(33, "that which is MENDED first (of several the least BREAK)");
        LandLines x = cutAt(row(4), 2, 0);
        x.demand(0, 1, 1);
        x.demand(2, 3, 5);
        x.ship(1, 99, 1);
        edge.is(5 * 9 + 1 * (9 + 14), x, "plain", 0);
        LandLines y = cutAt(row(4), 0, 2);
        y.demand(0, 1, 1);
        y.demand(2, 3, 5);
        y.ship(1, 99, 1);
        edge.is(1 * 9 + 5 * (9 + 14), y, "plain", 0);
        LandLines z = cutAt(row(4), 0, 1, 2);
        z.demand(0, 1, 1);
        z.demand(1, 2, 2);
        z.demand(2, 3, 3);
        z.ship(2, 99, 1);
        edge.is(3 * 4 + 2 * (4 + 9) + 1 * (4 + 9 + 9), z, "plain", 0);
        // 10 and 11 steps are 2 hours each for a sail of 6
        LandLines w = row(4);
        Due.rules(w, "sail 6;");
        w.demand(0, 1, 1);
        w.demand(2, 3, 5);
        cutAt(w, 0);
        w.cut(2, 0);
        w.echo(1, 0, 1, 0);
        w.ship(1, 99, 1);
        edge.is(1 * 6 + 5 * (6 + 4 + 4), w, "plain", 0);
        plainAlongY();
    }

    /** LANDS along y, at 90, 70, 0: a ship at 60 is nearest to the second one. */
    private static void plainAlongY() {
        LandLines x = new LandLines();
        x.land(0, 90);
        x.land(0, 70);
        x.land(0, 0);
        x.land(0, 60);
        Due.rules(x, "loss 0;");
        for (int l = 0; l < 3; l++) {
            x.line(l, 3, 0, 1, 0, 0);
            x.demand(l, 3, 5);
        }
        cutAt(x, 2, 0, 1);
        x.ship(3, 9, 1);
        edge.is(5 * 9 + 5 * (9 + 14) + 5 * (9 + 14 + 49), x, "plain", 0);
        edge.is(5 * 9 + 5 * (9 + 14) + 5 * (9 + 14 + 49), x, "order", 0);
    }

    private static void plainStandsStill() {
        edge.sentence(33, "one that can take nothing stands still");
        LandLines x = cutAt(row(4), 0, 1, 2);
        x.demand(0, 1, 1);
        x.demand(1, 2, 2);
        x.demand(2, 3, 3);
        edge.is(0, x, "plain", 0);
        edge.is(3, x, "plain", 1);
        x.ship(0, 2, 3);
        edge.is(0, x, "plain", 0);
        edge.is(3, x, "plain", 1);
        x.ship(0, 99, 2);
        edge.is(3, x, "plain", 1);
        edge.sentence(33, "how many BREAKS stay (1; they do not count in COST)");
        x.ship(0, 8, 1);
        edge.is(1 * 4 + 2 * (4 + 9), x, "plain", 0);
        edge.is(1, x, "plain", 1);
        edge.is(NONE, x, "order", 0);
        LandLines y = cutAt(row(4), 0, 1, 2);
        y.ship(0, 9, 1);
        edge.is(0, y, "plain", 1);
        LandLines z = cutAt(row(4), 1);
        z.cut(0, 0);
        z.ship(0, 12, 1);
        edge.is(1, z, "plain", 1);
        z.echo(1, 0, 6, 4);
        z.ship(0, 11, 1);
        edge.is(0, z, "plain", 1);
    }

    private static void plainSeven() {
        edge.sentence(33, "STATE: more than 7");
        LandLines x = cutAt(row(2), 0, 0, 0, 0, 0, 0, 0);
        x.demand(0, 1, 1);
        edge.is(7, x, "plain", 1);
        x.ship(0, 2, 1);
        x.ship(0, 2, 1);
        x.ship(0, 99, 1);
        edge.is(0, x, "plain", 1);
        edge.is(4 * (1 + 2 + 3 + 4 + 5 + 6 + 7), x, "plain", 0);
        edge.is(4 * (1 + 2 + 3 + 4 + 5 + 6 + 7), x, "order", 0);
        cutAt(x, 0);
        edge.is(STATE, x, "plain", 0);
        edge.is(STATE, x, "plain", 1);
        x.send(2, 0);
        edge.is(4 * (2 + 3 + 4 + 5 + 6 + 7 + 8), x, "plain", 0);
    }
}
