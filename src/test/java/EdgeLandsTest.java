/** Promises 1 to 9, a test for each sentence that names an edge. */
public final class EdgeLandsTest {
    private static final int BAD = LandLines.BAD, FULL = LandLines.FULL, NONE = LandLines.NONE;
    private static final Edge edge = new Edge();

    public static void main(String[] args) {
        newObject();
        newObjectAsked();
        objectsApart();
        lastCall();
        landBounds();
        landFull();
        lineBounds();
        lineSameLand();
        lineFull();
        lineOfBounds();
        lineOfEach();
        howFar();
        state();
        room();
        goesByAndAhead();
        lightEdges();
        lightAhead();
        untilEdges();
        changeEdges();
        yearEdges();
        hourEdges();
        edge.close();
    }

    /** LANDS at told places, and a LINE from the first to the second. */
    private static LandLines lineBetween(int x0, int y0, int x1, int y1, int splices, int year) {
        LandLines x = new LandLines();
        x.land(x0, y0);
        x.land(x1, y1);
        x.line(0, 1, 0, 1, splices, year);
        return x;
    }

    private static void newObject() {
        edge.sentence(1, "Nothing; rules as told at first; SHEETS of nothing.");
        for (int what = 0; what <= 10; what++) {
            edge.is(0, World.NOTHING, "count", what);
        }
        edge.is(NONE, World.NOTHING, "count", 11);
        int[] first = {100, 20, 1, 2, 1, 5, 4, 2, 0};
        for (int what = 0; what < first.length; what++) {
            edge.is(first[what], World.NOTHING, "rule", what);
        }
        for (int k = 0; k < 4; k++) {
            edge.is(-11, World.NOTHING, "lay", k, 0, 0);
            edge.is(-11, World.NOTHING, "read", k, 0, 0);
        }
        edge.is(0, World.NOTHING, "fault");
    }

    /** Every call that asks about something, where there is nothing. */
    private static void newObjectAsked() {
        edge.sentence(1, "Nothing");
        edge.is(BAD, World.NOTHING, "lineOf", 0, 0);
        edge.is(-10000, World.NOTHING, "light", 0);
        edge.is(BAD, World.NOTHING, "until", 0);
        edge.is(BAD, World.NOTHING, "rent", 0, 0);
        for (int what = 0; what < 3; what++) {
            edge.is(0, World.NOTHING, "led", what);
        }
        edge.is(BAD, World.NOTHING, "way", 0, 0);
        edge.is(BAD, World.NOTHING, "parts", 0, 0, 0);
        edge.is(NONE, World.NOTHING, "worst", 0, 0);
        edge.is(BAD, World.NOTHING, "swing", 0, 0, 0);
        int[] swings = {0, 1, 0, 0};
        for (int what = 0; what < 4; what++) {
            edge.is(swings[what], World.NOTHING, "swings", what);
        }
        edge.is(BAD, World.NOTHING, "breakOf", 0, 0);
        edge.is(0, World.NOTHING, "quake", 0, 0, 99, 0);
        edge.is(BAD, World.NOTHING, "shipOf", 0, 0);
        for (int what = 0; what < 2; what++) {
            edge.is(0, World.NOTHING, "order", what);
            edge.is(0, World.NOTHING, "plain", what);
            edge.is(0, World.NOTHING, "safe", 0, what);
        }
        edge.is(0, World.NOTHING, "owed", 0, 999);
        edge.is(0, World.NOTHING, "paid", 0, 999);
        edge.is(0, World.NOTHING, "rules");
        edge.is(0, World.NOTHING, "end", 0);
    }

    private static void objectsApart() {
        edge.sentence(1, "A new object");
        LandLines full = World.FULL.make();
        LandLines x = new LandLines();
        edge.is(0, "LANDS of a new one beside a full one", x.count(0));
        edge.is(100, "send of a new one", x.rule(0));
        edge.is(8, "LANDS of the full one", full.count(0));
        edge.is(600, "send of the full one", full.rule(0));
    }

    private static void lastCall() {
        edge.sentence(1, "at most 512 calls");
        LandLines x = new LandLines();
        for (int i = 1; i < 512; i++) {
            x.land(100, 0);
        }
        edge.is(0, x, "land", 0, 0);
    }

    private static void landBounds() {
        edge.sentence(2, "x, y (0 to 99)");
        edge.bounds(BAD, World.NOTHING, 0, 0, 99, "land", 5, 5);
        edge.bounds(BAD, World.SOME, 1, 0, 99, "land", 5, 5);
        edge.is(198, "HOW FAR the corners are", lineBetween(0, 0, 99, 99, 0, 0).lineOf(0, 6));
    }

    private static void landFull() {
        edge.sentence(2, "LANDS (8) are numbered as they come");
        LandLines x = new LandLines();
        for (int i = 0; i < 8; i++) {
            edge.is(i, x, "land", 7, 7);
        }
        edge.is(FULL, x, "land", 7, 7);
        edge.is(8, x, "count", 0);
        edge.sentence(2, "BAD; FULL");
        edge.refused(FULL, World.FULL, "land", 0, 0);
        edge.refused(BAD, World.FULL, "land", 100, 0);
        edge.refused(BAD, World.FULL, "land", 0, -1);
    }

    private static void lineBounds() {
        edge.sentence(3, "there is no such LAND");
        edge.bounds(BAD, World.SOME, 0, 0, 3, "line", 1, 2, 0, 1, 0, 0);
        edge.bounds(BAD, World.SOME, 1, 0, 3, "line", 2, 1, 0, 1, 0, 0);
        edge.refused(BAD, World.NOTHING, "line", 0, 1, 0, 1, 0, 0);
        edge.sentence(3, "DRY (0) or WET (1)");
        edge.bounds(BAD, World.SOME, 2, 0, 1, "line", 0, 1, 0, 1, 0, 0);
        edge.sentence(3, "FIBRES (1 to 8)");
        edge.bounds(BAD, World.SOME, 3, 1, 8, "line", 0, 1, 0, 1, 0, 0);
        edge.sentence(3, "SPLICES (0 to 20)");
        edge.bounds(BAD, World.SOME, 4, 0, 20, "line", 0, 1, 0, 1, 0, 0);
        edge.sentence(3, "a YEAR (0 to 99)");
        edge.bounds(BAD, World.SOME, 5, 0, 99, "line", 0, 1, 0, 1, 0, 0);
    }

    private static void lineSameLand() {
        edge.sentence(3, "BAD: also to the same LAND");
        for (int land = 0; land < 4; land++) {
            edge.refused(BAD, World.SOME, "line", land, land, 0, 1, 0, 0);
        }
        edge.sentence(3, "from a LAND to another one");
        edge.is(0, "LENGTH between two LANDS at one place", lineBetween(4, 4, 4, 4, 0, 0).lineOf(0, 6));
    }

    private static void lineFull() {
        edge.sentence(3, "LINES (12) are numbered as they come");
        LandLines x = new LandLines();
        x.land(0, 0);
        x.land(0, 0);
        for (int i = 0; i < 12; i++) {
            edge.is(i, x, "line", 0, 1, 1, 8, 20, 99);
        }
        edge.is(FULL, x, "line", 0, 1, 1, 8, 20, 99);
        edge.is(12, x, "count", 1);
        edge.sentence(3, "BAD: also to the same LAND; FULL");
        edge.refused(FULL, World.FULL, "line", 0, 1, 0, 1, 0, 0);
        edge.refused(BAD, World.FULL, "line", 0, 0, 0, 1, 0, 0);
        edge.refused(BAD, World.FULL, "line", 0, 8, 0, 1, 0, 0);
        edge.refused(BAD, World.FULL, "line", 0, 1, 0, 9, 0, 0);
    }

    private static void lineOfBounds() {
        edge.sentence(4, "Of a LINE: 0 the LAND from .. 10 AHEAD. BAD.");
        edge.bounds(BAD, World.SOME, 0, 0, 3, "lineOf", 0, 3);
        edge.bounds(BAD, World.FULL, 0, 0, 11, "lineOf", 0, 3);
        edge.bounds(BAD, World.SOME, 1, 0, 10, "lineOf", 0, 3);
    }

    private static void lineOfEach() {
        edge.sentence(4, "0 the LAND from, 1 to, 2 WET, 3 FIBRES, 4 SPLICES, 5 YEAR, 6 LENGTH");
        LandLines x = new LandLines();
        x.land(1, 0);
        x.land(0, 0);
        x.land(99, 99);
        x.line(0, 1, 0, 1, 0, 0);
        x.line(2, 1, 1, 8, 20, 99);
        int[] least = {0, 1, 0, 1, 0, 0, 1};
        int[] greatest = {2, 1, 1, 8, 20, 99, 198};
        for (int what = 0; what < 7; what++) {
            edge.is(least[what], x, "lineOf", 0, what);
            edge.is(greatest[what], x, "lineOf", 1, what);
        }
    }

    private static void howFar() {
        edge.sentence(4, "HOW FAR: the differences of x and of y, without signs, summed");
        edge.is(7, "up, up", lineBetween(10, 10, 13, 14, 0, 0).lineOf(0, 6));
        edge.is(7, "down, down", lineBetween(10, 10, 7, 6, 0, 0).lineOf(0, 6));
        edge.is(7, "up, down", lineBetween(10, 10, 13, 6, 0, 0).lineOf(0, 6));
        edge.is(7, "down, up", lineBetween(10, 10, 7, 14, 0, 0).lineOf(0, 6));
        edge.is(1, "one step", lineBetween(10, 10, 10, 11, 0, 0).lineOf(0, 6));
    }

    private static void state() {
        edge.sentence(4, "A LINE is CUT, if a BREAK of it is OPEN; else DIM, if LIGHT is below need; else LIT");
        LandLines x = lineBetween(0, 0, 80, 0, 0, 0);
        edge.is(20, "LIGHT is need", x.light(0));
        edge.is(0, x, "lineOf", 0, 7);
        edge.is(1, x, "count", 9);
        x.year(1);
        edge.is(19, "LIGHT is one below", x.light(0));
        edge.is(1, x, "lineOf", 0, 7);
        edge.is(0, x, "count", 9);
        x.cut(0, 0);
        edge.is(2, x, "lineOf", 0, 7);
        LandLines y = lineBetween(0, 0, 1, 0, 0, 0);
        y.line(0, 1, 0, 1, 0, 0);
        y.cut(0, 0);
        edge.is(2, y, "lineOf", 0, 7);
        edge.is(0, y, "lineOf", 1, 7);
        edge.is(1, y, "count", 9);
    }

    private static void room() {
        edge.sentence(4, "ROOM: room times FIBRES, if it is LIT, else 0");
        LandLines x = lineBetween(0, 0, 60, 0, 0, 0);
        Due.rules(x, "room 1;");
        edge.is(1, x, "lineOf", 0, 8);
        Due.rules(x, "room 50;");
        x.change(0, 0, 8);
        edge.is(400, x, "lineOf", 0, 8);
        x.year(20);
        edge.is(400, x, "lineOf", 0, 8);
        x.year(21);
        edge.is(0, x, "lineOf", 0, 8);
        Due.rules(x, "age 0;");
        edge.is(40, x, "lineOf", 0, 8);
        x.cut(0, 0);
        edge.is(0, x, "lineOf", 0, 8);
    }

    private static void goesByAndAhead() {
        edge.sentence(4, "9 what goes by it as all is LED, 10 AHEAD");
        LandLines x = lineBetween(0, 0, 1, 0, 0, 0);
        edge.is(0, x, "lineOf", 0, 9);
        edge.is(0, x, "lineOf", 0, 10);
        x.demand(0, 1, 3);
        x.demand(1, 0, 2);
        x.demand(0, 1, 1);
        edge.is(5, x, "lineOf", 0, 9);
        edge.is(5, x, "lineOf", 0, 10);
        edge.is(1, x, "led", 1);
        x.line(0, 1, 0, 1, 0, 0);
        edge.is(5, x, "lineOf", 0, 9);
        edge.is(1, x, "lineOf", 1, 9);
        edge.is(1, x, "lineOf", 0, 10);
        edge.is(1, x, "lineOf", 1, 10);
        x.cut(0, 0);
        edge.is(0, x, "lineOf", 0, 9);
        edge.is(0, x, "lineOf", 0, 10);
        edge.is(5, x, "lineOf", 1, 10);
    }

    private static void lightEdges() {
        edge.sentence(5, "LIGHT of a LINE (can be below 0)");
        edge.is(0, lineBetween(0, 0, 99, 1, 0, 0), "light", 0);
        edge.is(-1, lineBetween(0, 0, 99, 2, 0, 0), "light", 0);
        LandLines x = lineBetween(0, 0, 99, 99, 20, 0);
        x.year(99);
        Due.rules(x, "send 0;loss 20;splice 20;age 20;");
        edge.is(-20 * 198 - 20 * 20 - 20 * 99, x, "light", 0);
        Due.rules(x, "send 999;loss 0;splice 0;age 0;");
        edge.is(999, x, "light", 0);
        edge.sentence(5, "BAD -10000");
        edge.bounds(-10000, World.SOME, 0, 0, 3, "light", 0);
        edge.bounds(-10000, World.FULL, 0, 0, 11, "light", 0);
    }

    private static void lightAhead() {
        edge.sentence(5, "less age times the years from its YEAR to THE YEAR (none, if it is ahead)");
        LandLines x = lineBetween(0, 0, 0, 0, 0, 50);
        Due.rules(x, "age 20;");
        edge.is(100, "50 years ahead", x.light(0));
        x.year(49);
        edge.is(100, "a year ahead", x.light(0));
        x.year(50);
        edge.is(100, "in its YEAR", x.light(0));
        x.year(51);
        edge.is(80, "a year behind", x.light(0));
        x.year(99);
        edge.is(100 - 20 * 49, "49 years behind", x.light(0));
    }

    private static void untilEdges() {
        edge.sentence(6, "The first YEAR (0 to 99) in which its LIGHT is below need");
        edge.is(0, lineBetween(0, 0, 81, 0, 0, 0), "until", 0);
        edge.is(1, lineBetween(0, 0, 80, 0, 0, 0), "until", 0);
        edge.is(51, lineBetween(0, 0, 80, 0, 0, 50), "until", 0);
        edge.is(99, lineBetween(0, 0, 80, 0, 0, 98), "until", 0);
        edge.is(99, lineBetween(0, 0, 31, 0, 0, 49), "until", 0);
        edge.sentence(6, "NONE");
        edge.is(NONE, lineBetween(0, 0, 80, 0, 0, 99), "until", 0);
        edge.is(NONE, lineBetween(0, 0, 31, 0, 0, 50), "until", 0);
        LandLines x = lineBetween(0, 0, 80, 0, 0, 0);
        Due.rules(x, "age 0;");
        edge.is(NONE, x, "until", 0);
        Due.rules(x, "age 0;need 21;");
        edge.is(0, x, "until", 0);
        edge.sentence(6, "BAD");
        edge.bounds(BAD, World.SOME, 0, 0, 3, "until", 0);
        edge.bounds(BAD, World.FULL, 0, 0, 11, "until", 0);
    }

    private static void changeEdges() {
        edge.sentence(7, "there is no such .. LINE");
        edge.bounds(BAD, World.SOME, 0, 0, 3, "change", 0, 5, 5);
        edge.bounds(BAD, World.FULL, 0, 0, 11, "change", 0, 5, 5);
        edge.sentence(7, "SPLICES (0 to 20)");
        edge.bounds(BAD, World.SOME, 1, 0, 20, "change", 0, 5, 5);
        edge.sentence(7, "FIBRES (1 to 8)");
        edge.bounds(BAD, World.SOME, 2, 1, 8, "change", 0, 5, 5);
        edge.sentence(7, "SPLICES of a LINE become v, its FIBRES f: SPLICES that it had");
        LandLines x = World.SOME.make();
        edge.is(3, x, "change", 0, 20, 8);
        edge.is(20, x, "lineOf", 0, 4);
        edge.is(8, x, "lineOf", 0, 3);
        edge.is(20, x, "change", 0, 0, 1);
        edge.is(0, x, "lineOf", 0, 4);
        edge.is(1, x, "lineOf", 0, 3);
        edge.is(0, x, "change", 1, 1, 1);
    }

    private static void yearEdges() {
        edge.sentence(8, "THE YEAR becomes v, not ahead of it");
        edge.bounds(BAD, World.SOME, 0, 3, 99, "year", 5);
        edge.bounds(BAD, World.NOTHING, 0, 0, 99, "year", 5);
        edge.refused(BAD, World.SOME, "year", 0);
        edge.sentence(8, "what it was");
        LandLines x = World.SOME.make();
        edge.is(3, x, "year", 3);
        edge.is(3, x, "year", 98);
        edge.is(98, x, "year", 99);
        edge.is(99, x, "year", 99);
        edge.is(BAD, x, "year", 98);
        edge.is(BAD, x, "year", 100);
        edge.is(99, x, "count", 7);
    }

    private static void hourEdges() {
        edge.sentence(9, "THE HOUR becomes v, not ahead of it");
        edge.bounds(BAD, World.SOME, 0, 20, 999, "hour", 25);
        edge.bounds(BAD, World.NOTHING, 0, 0, 999, "hour", 25);
        edge.refused(BAD, World.SOME, "hour", 0);
        edge.sentence(9, "what it was");
        LandLines x = World.SOME.make();
        edge.is(20, x, "hour", 20);
        edge.is(20, x, "hour", 998);
        edge.is(998, x, "hour", 999);
        edge.is(999, x, "hour", 999);
        edge.is(BAD, x, "hour", 998);
        edge.is(BAD, x, "hour", 1000);
        edge.is(999, x, "count", 8);
    }
}
