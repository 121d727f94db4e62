/** Promises 38 to 41: SHEETS, traffic read from them, counts. */
public final class SheetsTest {
    private static final Due due = new Due();

    public static void main(String[] args) {
        sheets();
        lay();
        lowestBits();
        read();
        readRefused();
        counts();
        constants();
        due.close();
    }

    private static void sheets() {
        LandLines x = new LandLines();
        due.is("sheet(0, 2, 40)", x.sheet(0, 2, 40), 1);
        int[][] bad = {{-1, 0, 1}, {4, 0, 1}, {0, -1, 1}, {0, 3, 1}, {0, 0, 41}, {4, 0, -1}, {0, 3, -1}};
        for (int[] b : bad) {
            due.is("sheet that is bad", x.sheet(b[0], b[1], b[2]), LandLines.BAD);
        }
        due.is("below 0", x.sheet(0, 0, -1), -14);
        due.is("far below 0", x.sheet(0, 0, Integer.MIN_VALUE), -14);
        due.is("it stays as it was", x.count(11), 40);
        x.lay(0, 0, 5);
        due.is("anew", x.sheet(0, 2, 1), 1);
        x.land(0, 0);
        x.land(1, 1);
        x.demand(0, 1, 7);
        due.is("CELLS are 0", x.read(0, 2, 0), 0);
        due.is("none of 0", x.sheet(3, 1, 0), 1);
        due.is("no CELL", x.lay(3, 0, 0), -12);
    }

    private static void lay() {
        LandLines x = new LandLines();
        x.sheet(1, 0, 3);
        due.is("lay(-1, 0, 0)", x.lay(-1, 0, 0), LandLines.BAD);
        due.is("lay(4, 0, 0)", x.lay(4, 0, 0), LandLines.BAD);
        due.is("nothing", x.lay(0, 0, 0), -11);
        due.is("nothing, with any CELL", x.lay(0, -1, 0), -11);
        due.is("lay(1, 3, 0)", x.lay(1, 3, 0), -12);
        due.is("lay(1, -1, 0)", x.lay(1, -1, 0), -12);
        due.is("lay(1, 2, 0)", x.lay(1, 2, 0), 1);
    }

    private static void lowestBits() {
        int[][] rows = {{0, 256 + 99, 99}, {0, 128, -20}, {0, 255, -20}, {0, -256, 0}, {1, 65536 + 98, 98},
            {1, 32768, -20}, {1, 256 + 99, -20}, {1, 99, 99}, {2, 65536, -20}, {2, 99, 99}, {2, 100, -20},
            {2, -1, -20}, {2, Integer.MIN_VALUE, -20}, {1, Integer.MIN_VALUE, 0}};
        for (int[] r : rows) {
            LandLines x = new LandLines();
            x.land(0, 0);
            x.land(1, 1);
            x.demand(0, 1, 7);
            x.sheet(2, r[0], 1);
            x.lay(2, 0, r[1]);
            due.is("lane " + r[0] + " of " + r[1], x.read(2, r[0], 0), r[2]);
        }
    }

    private static LandLines three() {
        LandLines x = new LandLines();
        x.land(0, 0);
        x.land(1, 1);
        for (int d = 0; d < 3; d++) {
            x.demand(0, 1, 10 + d);
        }
        x.sheet(3, 1, 5);
        for (int i = 0; i < 5; i++) {
            x.lay(3, i, 95 + i);
        }
        return x;
    }

    private static void read() {
        LandLines x = three();
        due.is("read(3, 1, 2)", x.read(3, 1, 2), 97 + 98 + 99);
        for (int d = 0; d < 3; d++) {
            due.is("DEMAND " + d, x.much(d, 0), 97 + d);
        }
        x.lay(3, 1, 0);
        due.is("read(3, 1, 0)", x.read(3, 1, 0), 95 + 97);
        due.is("DEMAND 1 is 0", x.much(1, 3), 0);
        LandLines y = new LandLines();
        y.sheet(0, 0, 0);
        due.is("no DEMAND, any CELL", y.read(0, 0, -7), 0);
        due.is("no DEMAND, another lane", y.read(0, 1, 0), -13);
    }

    private static void readRefused() {
        LandLines x = three();
        int[][] bad = {{-1, 0, 0}, {4, 0, 0}, {3, -1, 0}, {3, 3, 0}};
        for (int[] b : bad) {
            due.is("read that is bad", x.read(b[0], b[1], b[2]), LandLines.BAD);
        }
        due.is("nothing", x.read(0, 0, 0), -11);
        due.is("another lane", x.read(3, 0, -1), -13);
        due.is("below the first CELL", x.read(3, 1, -1), -12);
        due.is("beyond the last CELL", x.read(3, 1, 3), -12);
        due.is("far beyond", x.read(3, 1, Integer.MAX_VALUE), -12);
        due.is("far below", x.read(3, 1, Integer.MIN_VALUE), -12);
        x.lay(3, 4, 100);
        due.is("100 comes ahead of the end", x.read(3, 1, 3), -21);
        due.is("100 comes last", x.read(3, 1, 2), -22);
        x.lay(3, 3, -1);
        due.is("the first met", x.read(3, 1, 3), -20);
        for (int d = 0; d < 3; d++) {
            due.is("none changed: " + d, x.much(d, 0), 10 + d);
        }
    }

    private static void counts() {
        LandLines x = new LandLines();
        x.land(0, 0);
        x.land(9, 9);
        x.land(8, 9);
        x.line(0, 1, 0, 1, 0, 0);
        x.line(0, 1, 0, 1, 20, 0);
        x.line(0, 1, 0, 1, 0, 0);
        x.line(1, 2, 0, 1, 0, 0);
        x.demand(0, 1, 1);
        x.hour(2);
        x.cut(0, 0);
        x.cut(0, 0);
        x.echo(0, 0, 0, 0);
        x.ship(0, 9, 3);
        x.ship(0, 9, 3);
        x.send(0, 0);
        x.hour(6);
        x.year(30);
        x.plan(0, 1, 1);
        x.plan(0, 1, 1);
        x.plan(0, 1, 1);
        x.feed(0L);
        x.sheet(0, 1, 7);
        int[] want = {3, 4, 1, 2, 1, 2, 3, 30, 6, 2, 8, 7, LandLines.BAD};
        for (int what = 0; what < want.length; what++) {
            due.is("count(" + what + ")", x.count(what), want[what]);
        }
        due.is("count(-1)", x.count(-1), LandLines.BAD);
        x.sheet(0, 1, 0);
        due.is("no CELLS are not nothing", x.count(11), 0);
    }

    private static void constants() {
        due.is("BAD", LandLines.BAD, -1);
        due.is("STATE", LandLines.STATE, -2);
        due.is("FULL", LandLines.FULL, -3);
        due.is("NONE", LandLines.NONE, -4);
        due.is("SPENT", LandLines.SPENT, -6);
    }
}
