/** Promises 1 to 9: a new object, LANDS and LINES, LIGHT, THE YEAR and THE HOUR. */
public final class LandsTest {
    private static final Due due = new Due();

    public static void main(String[] args) {
        newObject();
        lands();
        lines();
        lineOf();
        light();
        until();
        change();
        yearAndHour();
        due.close();
    }

    private static void newObject() {
        LandLines x = new LandLines();
        for (int what = 0; what <= 10; what++) {
            due.is("new: count(" + what + ")", x.count(what), 0);
        }
        due.is("new: count(11)", x.count(11), LandLines.NONE);
        int[] first = {100, 20, 1, 2, 1, 5, 4, 2, 0};
        for (int what = 0; what < first.length; what++) {
            due.is("new: rule(" + what + ")", x.rule(what), first[what]);
        }
        due.is("new: fault", x.fault(), 0);
        for (int k = 0; k < 4; k++) {
            due.is("new: lay", x.lay(k, 0, 0), -11);
        }
        due.is("new: land of another object", new LandLines().land(1, 1), x.land(1, 1));
    }

    private static void lands() {
        LandLines x = new LandLines();
        due.is("land(-1, 0)", x.land(-1, 0), LandLines.BAD);
        due.is("land(0, -1)", x.land(0, -1), LandLines.BAD);
        due.is("land(100, 0)", x.land(100, 0), LandLines.BAD);
        due.is("land(0, 100)", x.land(0, 100), LandLines.BAD);
        due.is("land(MIN, MAX)", x.land(Integer.MIN_VALUE, Integer.MAX_VALUE), LandLines.BAD);
        due.is("none came", x.count(0), 0);
        for (int i = 0; i < 8; i++) {
            due.is("land " + i, x.land(i % 2 * 99, 99), i);
        }
        due.is("the ninth", x.land(0, 0), LandLines.FULL);
        due.is("a bad ninth", x.land(100, 0), LandLines.BAD);
        due.is("eight came", x.count(0), 8);
    }

    private static void lines() {
        LandLines x = two(0, 0, 3, 4);
        int[][] bad = {{0, 2, 0, 1, 0, 0}, {-1, 1, 0, 1, 0, 0}, {0, -1, 0, 1, 0, 0}, {2, 0, 0, 1, 0, 0},
            {1, 1, 0, 1, 0, 0}, {0, 1, 2, 1, 0, 0}, {0, 1, -1, 1, 0, 0}, {0, 1, 0, 0, 0, 0}, {0, 1, 0, 9, 0, 0},
            {0, 1, 0, 1, -1, 0}, {0, 1, 0, 1, 21, 0}, {0, 1, 0, 1, 0, -1}, {0, 1, 0, 1, 0, 100}};
        for (int[] b : bad) {
            due.is("line that is bad", x.line(b[0], b[1], b[2], b[3], b[4], b[5]), LandLines.BAD);
        }
        due.is("none came", x.count(1), 0);
        for (int i = 0; i < 12; i++) {
            due.is("line " + i, x.line(i % 2, 1 - i % 2, 1, 8, 20, 99), i);
        }
        due.is("the thirteenth", x.line(0, 1, 0, 1, 0, 0), LandLines.FULL);
        due.is("a bad thirteenth", x.line(0, 0, 0, 1, 0, 0), LandLines.BAD);
        due.is("twelve came", x.count(1), 12);
    }

    private static LandLines two(int x0, int y0, int x1, int y1) {
        LandLines x = new LandLines();
        x.land(x0, y0);
        x.land(x1, y1);
        return x;
    }

    private static void lineOf() {
        LandLines x = two(7, 2, 3, 9);
        x.line(1, 0, 1, 2, 5, 4);
        int[] want = {1, 0, 1, 2, 5, 4, 11, 0, 10, 0, 0, LandLines.BAD};
        for (int what = 0; what < want.length; what++) {
            due.is("lineOf(0, " + what + ")", x.lineOf(0, what), want[what]);
        }
        due.is("lineOf(0, -1)", x.lineOf(0, -1), LandLines.BAD);
        due.is("lineOf(-1, 0)", x.lineOf(-1, 0), LandLines.BAD);
        due.is("lineOf(1, 0)", x.lineOf(1, 0), LandLines.BAD);
        x.demand(0, 1, 6);
        x.demand(1, 0, 4);
        due.is("goes by it both ways", x.lineOf(0, 9), 10);
        due.is("AHEAD", x.lineOf(0, 10), 10);
        x.cut(0, 0);
        due.is("CUT", x.lineOf(0, 7), 2);
        due.is("ROOM of CUT", x.lineOf(0, 8), 0);
        due.is("nothing goes by CUT", x.lineOf(0, 9), 0);
        due.is("AHEAD of CUT", x.lineOf(0, 10), 0);
        x.line(0, 1, 0, 3, 20, 0);
        due.is("LIT", x.lineOf(1, 7), 0);
        x.year(30);
        due.is("DIM: 100 - 11 - 40 - 30", x.lineOf(1, 7), 1);
        due.is("ROOM of DIM", x.lineOf(1, 8), 0);
        due.is("CUT and not DIM", x.lineOf(0, 7), 2);
        due.is("none LIT", x.count(9), 0);
    }

    private static void light() {
        LandLines x = two(0, 0, 99, 99);
        x.line(0, 1, 0, 1, 20, 10);
        due.is("light, YEAR to come", x.light(0), 100 - 198 - 40);
        x.year(10);
        due.is("light in its YEAR", x.light(0), 100 - 198 - 40);
        x.year(11);
        due.is("light a year on", x.light(0), 100 - 198 - 40 - 1);
        due.is("light(1)", x.light(1), -10000);
        due.is("light(-1)", x.light(-1), -10000);
        Due.rules(x, "send 0;loss 20;splice 20;age 20;");
        x.year(99);
        due.is("the least light", x.light(0), -20 * 198 - 20 * 20 - 20 * 89);
        Due.rules(x, "send 999;loss 0;splice 0;age 0;");
        due.is("the most light", x.light(0), 999);
    }

    private static void until() {
        LandLines x = two(0, 0, 10, 0);
        x.line(0, 1, 0, 1, 0, 50);
        due.is("until: not in 99 years", x.until(0), LandLines.NONE);
        Due.rules(x, "send 30;");
        due.is("need itself is enough", x.until(0), 51);
        due.is("LIT with need itself", x.lineOf(0, 7), 0);
        x.year(90);
        due.is("THE YEAR is nothing to it", x.until(0), 51);
        due.is("DIM with less", x.lineOf(0, 7), 1);
        Due.rules(x, "send 29;");
        due.is("dim from the beginning", x.until(0), 0);
        Due.rules(x, "send 78;");
        due.is("the last YEAR", x.until(0), 99);
        Due.rules(x, "send 79;");
        due.is("a year beyond", x.until(0), LandLines.NONE);
        due.is("until(1)", x.until(1), LandLines.BAD);
        due.is("until(-1)", x.until(-1), LandLines.BAD);
    }

    private static void change() {
        LandLines x = two(0, 0, 10, 0);
        x.line(0, 1, 0, 1, 7, 0);
        due.is("change", x.change(0, 20, 8), 7);
        due.is("SPLICES", x.lineOf(0, 4), 20);
        due.is("FIBRES", x.lineOf(0, 3), 8);
        int[][] bad = {{1, 0, 1}, {-1, 0, 1}, {0, 21, 1}, {0, -1, 1}, {0, 0, 0}, {0, 0, 9}};
        for (int[] b : bad) {
            due.is("change that is bad", x.change(b[0], b[1], b[2]), LandLines.BAD);
        }
        due.is("SPLICES stay", x.lineOf(0, 4), 20);
        due.is("FIBRES stay", x.lineOf(0, 3), 8);
        due.is("change back", x.change(0, 0, 1), 20);
    }

    private static void yearAndHour() {
        LandLines x = new LandLines();
        due.is("year(0)", x.year(0), 0);
        due.is("year(-1)", x.year(-1), LandLines.BAD);
        due.is("year(100)", x.year(100), LandLines.BAD);
        due.is("year(99)", x.year(99), 0);
        due.is("year(98)", x.year(98), LandLines.BAD);
        due.is("year(99) again", x.year(99), 99);
        due.is("THE YEAR", x.count(7), 99);
        due.is("hour(0)", x.hour(0), 0);
        due.is("hour(-1)", x.hour(-1), LandLines.BAD);
        due.is("hour(1000)", x.hour(1000), LandLines.BAD);
        due.is("hour(999)", x.hour(999), 0);
        due.is("hour(998)", x.hour(998), LandLines.BAD);
        due.is("hour(999) again", x.hour(999), 999);
        due.is("THE HOUR", x.count(8), 999);
    }
}
