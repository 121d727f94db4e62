/** Promises 29 to 33: SHIPS, ORDER, ORDER by a rule. */
public final class ShipsTest {
    private static final Due due = new Due();

    public static void main(String[] args) {
        ships();
        send();
        sendRefused();
        order();
        orderParted();
        orderRefused();
        tooMany();
        plain();
        plainFree();
        due.close();
    }

    private static void ships() {
        LandLines x = new LandLines();
        x.land(8, 9);
        int[][] bad = {{1, 0, 0}, {-1, 0, 0}, {0, -1, 0}, {0, 100, 0}, {0, 0, -1}, {0, 0, 4}};
        for (int[] b : bad) {
            due.is("ship that is bad", x.ship(b[0], b[1], b[2]), LandLines.BAD);
        }
        due.is("ship 0", x.ship(0, 0, 0), 0);
        due.is("ship 1", x.ship(0, 99, 3), 1);
        due.is("ship 2", x.ship(0, 50, 2), 2);
        due.is("the fourth", x.ship(0, 0, 0), LandLines.FULL);
        due.is("a bad fourth", x.ship(0, 0, 4), LandLines.BAD);
        int[] want = {8, 9, 50, 2, 0, LandLines.BAD};
        for (int what = 0; what < want.length; what++) {
            due.is("shipOf(2, " + what + ")", x.shipOf(2, what), want[what]);
        }
        due.is("shipOf(2, -1)", x.shipOf(2, -1), LandLines.BAD);
        due.is("shipOf(3, 0)", x.shipOf(3, 0), LandLines.BAD);
        due.is("shipOf(-1, 0)", x.shipOf(-1, 0), LandLines.BAD);
    }

    /** LANDS in a row along x, each with one LINE to the next, of ROOM 5, told WET or not. */
    private static LandLines row(int lands, int step, int wet) {
        LandLines x = new LandLines();
        for (int i = 0; i < lands; i++) {
            x.land(i * step, 0);
        }
        for (int i = 0; i + 1 < lands; i++) {
            x.line(i, i + 1, wet, 1, 0, 0);
        }
        return x;
    }

    /** A BREAK just at the first LAND of a LINE. */
    private static void cutAt(LandLines x, int l) {
        int b = x.cut(l, 0);
        x.echo(b, 0, 0, 0);
    }

    private static void send() {
        LandLines x = row(4, 5, 1);
        x.hour(3);
        x.cut(2, 1);
        x.echo(0, 0, 3, 1);
        cutAt(x, 1);
        x.ship(0, 20, 2);
        due.is("12 by 2, and 4", x.send(0, 0), 3 + 6 + 4);
        int[] want = {12, 0, 15, 2, 13};
        for (int what = 0; what < want.length; what++) {
            due.is("shipOf(0, " + what + ")", x.shipOf(0, what), want[what]);
        }
        due.is("behind that: 7 by 2 divided up, and 4", x.send(0, 1), 13 + 4 + 4);
        due.is("REEL left", x.shipOf(0, 2), 12);
        due.is("OPEN still", x.count(4), 2);
        x.hour(999);
        cutAt(x, 0);
        Due.rules(x, "sail 1;mend 20;");
        due.is("above 999", x.send(0, 2), 999 + 5 + 20);
        due.is("OPEN for good", x.breakOf(2, 8), 1);
        due.is("MENDED above 999", x.breakOf(2, 6), 1024);
    }

    private static void sendRefused() {
        LandLines x = row(3, 10, 1);
        x.line(0, 2, 0, 1, 0, 0);
        x.cut(0, 0);
        x.cut(2, 0);
        x.ship(0, 12, 3);
        x.ship(0, 99, 1);
        x.ship(0, 13, 2);
        due.is("REEL is 13", x.send(0, 0), LandLines.STATE);
        due.is("LEAVE is DRY", x.send(1, 0), LandLines.STATE);
        due.is("LEAVE is WET", x.send(2, 1), LandLines.STATE);
        due.is("send(3, 0)", x.send(3, 0), LandLines.BAD);
        due.is("send(-1, 0)", x.send(-1, 0), LandLines.BAD);
        due.is("send(0, 2)", x.send(0, 2), LandLines.BAD);
        due.is("send(0, -1)", x.send(0, -1), LandLines.BAD);
        due.is("nothing changed", x.shipOf(2, 2), 13);
        due.is("REEL itself is enough", x.send(2, 0), 4);
        due.is("REEL left", x.shipOf(2, 2), 0);
        x.echo(1, 0, 0, 0);
        due.is("one that is in hands", x.send(0, 0), LandLines.STATE);
        x.hour(4);
        due.is("one that is MENDED", x.send(0, 0), LandLines.STATE);
        due.is("another one", x.send(1, 1), 8);
    }

    private static void order() {
        LandLines x = row(4, 10, 0);
        x.demand(0, 1, 1);
        x.demand(2, 3, 5);
        due.is("nothing to do", x.order(0), 0);
        due.is("nothing in it", x.order(1), 0);
        due.is("no such BREAK", x.order(10), LandLines.BAD);
        cutAt(x, 0);
        cutAt(x, 2);
        due.is("no ship", x.order(0), LandLines.NONE);
        due.is("no ship for one", x.order(10), LandLines.NONE);
        due.is("but in it", x.order(1), 3);
        x.ship(1, 99, 1);
        // at 10: to 20 is 5 + 4 hours, to 0 likewise, from one to the other 10 + 4
        due.is("the greater WEIGHT first", x.order(0), 5 * 9 + 1 * (9 + 14));
        due.is("bits of both", x.order(1), 3);
        due.is("its ship", x.order(10), 0);
        due.is("order(2)", x.order(2), LandLines.BAD);
        due.is("order(9)", x.order(9), LandLines.BAD);
        due.is("order(12)", x.order(12), LandLines.BAD);
        due.is("order(-1)", x.order(-1), LandLines.BAD);
        x.hour(5);
        due.is("hours are from THE HOUR", x.order(0), 5 * 9 + 1 * (9 + 14));
        x.year(99);
        due.is("DIM ones weigh nothing", x.order(0), 0);
        LandLines y = row(4, 10, 0);
        for (int l = 0; l < 3; l++) {
            y.demand(l, l + 1, 1);
            cutAt(y, l);
        }
        y.ship(0, 9, 1);
        due.is("three, one behind another", y.order(0), 4 + (4 + 9) + (4 + 9 + 9));
        y.much(2, 5);
        due.is("or the last first", y.order(0), 4 + 5 * (4 + 14) + (4 + 14 + 9));
    }

    private static void orderParted() {
        LandLines x = row(3, 10, 0);
        x.demand(0, 1, 2);
        x.demand(1, 2, 3);
        cutAt(x, 0);
        cutAt(x, 1);
        x.ship(2, 99, 1);
        x.ship(0, 99, 3);
        x.ship(0, 99, 3);
        due.is("each the nearest", x.order(0), 2 * 4 + 3 * 9);
        due.is("ship of 0", x.order(10), 1);
        due.is("ship of 1: the least of several", x.order(11), 0);
        x.send(1, 0);
        due.is("one is left", x.order(1), 2);
        due.is("not in it", x.order(10), LandLines.NONE);
        due.is("its COST", x.order(0), 27);
        x.send(0, 1);
        due.is("none is left", x.order(1), 0);
        due.is("no COST", x.order(0), 0);
        cutAt(x, 0);
        due.is("a ship that is not free yet waits", x.order(0), 2 * 4);
        due.is("so another goes", x.order(12), 2);
    }

    private static void orderRefused() {
        LandLines x = row(3, 10, 1);
        cutAt(x, 0);
        cutAt(x, 1);
        x.ship(0, 5, 3);
        due.is("REEL for one alone", x.order(0), LandLines.NONE);
        due.is("none for any", x.order(10), LandLines.NONE);
        x.ship(0, 99, 1);
        due.is("LEAVE for neither", x.order(0), LandLines.NONE);
        x.ship(0, 3, 2);
        due.is("REEL for both", x.order(0), 0);
        due.is("the least for 0", x.order(10), 0);
        due.is("what is left for 1", x.order(11), 2);
    }

    private static void tooMany() {
        LandLines x = row(2, 1, 0);
        x.ship(0, 99, 3);
        for (int b = 0; b < 7; b++) {
            cutAt(x, 0);
        }
        due.is("seven", x.order(1), 127);
        due.is("seven are done", x.order(0), 0);
        due.is("seven, plainly", x.plain(1), 0);
        LandLines y = row(2, 1, 0);
        y.ship(0, 99, 2);
        y.ship(0, 20, 3);
        y.ship(0, 21, 1);
        for (int b = 0; b < 7; b++) {
            cutAt(y, 0);
        }
        due.is("seven by the last ship but one", y.order(10), 1);
        due.is("and one by the last", y.order(16), 2);
        y.send(1, 6);
        cutAt(y, 0);
        due.is("five by ship 1", y.order(14), 1);
        due.is("two by ship 2", y.order(15) + y.order(17), 4);
        lastParting();
        cutAt(x, 0);
        for (int what : new int[] {0, 1, 10, 17}) {
            due.is("eight, order(" + what + ")", x.order(what), LandLines.STATE);
        }
        due.is("eight, plainly", x.plain(0), LandLines.STATE);
        due.is("eight, plainly, how many", x.plain(1), LandLines.STATE);
        due.is("bad comes first", x.order(18), LandLines.BAD);
        due.is("bad comes first, plainly", x.plain(2), LandLines.BAD);
        x.send(0, 3);
        due.is("seven again", x.order(1), 255 - 8);
        due.is("not in it", x.order(13), LandLines.NONE);
        due.is("in it", x.order(17), 0);
    }

    /** Only the ship with the greatest number can do all. */
    private static void lastParting() {
        LandLines x = row(2, 1, 0);
        x.ship(0, 99, 2);
        x.ship(0, 2, 3);
        x.ship(0, 21, 1);
        for (int b = 0; b < 7; b++) {
            cutAt(x, 0);
        }
        due.is("all by the last ship", x.order(0), 0);
        due.is("the first by the last ship", x.order(10), 2);
        due.is("the last by the last ship", x.order(16), 2);
    }

    private static void plain() {
        LandLines x = row(4, 10, 0);
        x.demand(0, 1, 1);
        x.demand(2, 3, 5);
        cutAt(x, 0);
        cutAt(x, 2);
        due.is("no ship", x.plain(0), 0);
        due.is("both stay", x.plain(1), 2);
        x.ship(1, 99, 1);
        due.is("of like ones the least BREAK first", x.plain(0), 1 * 9 + 5 * (9 + 14));
        due.is("none stays", x.plain(1), 0);
        due.is("plain(2)", x.plain(2), LandLines.BAD);
        due.is("plain(-1)", x.plain(-1), LandLines.BAD);
        LandLines y = row(4, 10, 0);
        y.demand(0, 1, 1);
        y.demand(2, 3, 5);
        cutAt(y, 0);
        cutAt(y, 2);
        y.ship(0, 5, 1);
        due.is("what stays does not count", y.plain(0), 4);
        due.is("one stays", y.plain(1), 1);
        y.ship(0, 2, 3);
        y.ship(3, 3, 1);
        due.is("ship 1 stands still, ship 2 goes", y.plain(0), 4 + 5 * 9);
        due.is("none stays then", y.plain(1), 0);
    }

    private static void plainFree() {
        LandLines x = row(4, 10, 0);
        x.demand(0, 1, 2);
        x.demand(1, 2, 3);
        cutAt(x, 0);
        x.ship(1, 99, 1);
        x.ship(3, 99, 1);
        due.is("ship 0 is away", x.send(0, 0), 9);
        cutAt(x, 1);
        due.is("ship 1 is free first", x.plain(0), 3 * (10 + 4));
        due.is("14 hours of ship 1 are fewer than 9 and 9 of ship 0", x.order(11), 1);
        x.hour(9);
        due.is("both are free: the least ship", x.plain(0), 3 * 9);
    }
}
