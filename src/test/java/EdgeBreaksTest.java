/** Promises 24 to 28, a test for each sentence that names an edge. */
public final class EdgeBreaksTest {
    private static final int BAD = LandLines.BAD, STATE = LandLines.STATE, FULL = LandLines.FULL, NONE = LandLines.NONE;
    private static final Edge edge = new Edge();

    public static void main(String[] args) {
        cutBounds();
        cutHours();
        cutFull();
        echoBounds();
        echoSpots();
        echoBothEnds();
        echoNoneLeft();
        echoMendingTold();
        breakOfBounds();
        breakOfAtFirst();
        breakOfMended();
        places();
        quakeBounds();
        quakeHours();
        quakeReach();
        quakeBits();
        sharedBounds();
        sharedSame();
        sharedReach();
        sharedHours();
        edge.close();
    }

    /** Two LANDS, a DRY LINE from the first to the second, THE HOUR. */
    private static LandLines lineBetween(int x0, int y0, int x1, int y1, int hour) {
        LandLines x = new LandLines();
        x.land(x0, y0);
        x.land(x1, y1);
        x.line(0, 1, 0, 1, 0, 0);
        x.hour(hour);
        return x;
    }

    private static void cutBounds() {
        edge.sentence(24, "there is no such .. LINE");
        edge.bounds(BAD, World.SOME, 0, 0, 3, "cut", 0, 20);
        edge.refused(BAD, World.NOTHING, "cut", 0, 0);
        edge.sentence(24, "from an HOUR on (not behind THE HOUR)");
        edge.bounds(BAD, World.SOME, 1, 0, 20, "cut", 0, 20);
        LandLines x = lineBetween(0, 0, 1, 0, 0);
        edge.is(BAD, x, "cut", 0, 1);
        edge.is(0, x, "cut", 0, 0);
        LandLines y = lineBetween(0, 0, 1, 0, 999);
        edge.is(BAD, y, "cut", 0, 1000);
        edge.is(0, y, "cut", 0, 999);
        edge.is(1, y, "cut", 0, 0);
    }

    private static void cutHours() {
        edge.sentence(24, "SAID in THE HOUR when it came");
        LandLines x = lineBetween(0, 0, 1, 0, 5);
        x.cut(0, 0);
        x.hour(6);
        x.cut(0, 6);
        x.hour(7);
        edge.is(0, x, "breakOf", 0, 1);
        edge.is(5, x, "breakOf", 0, 2);
        edge.is(6, x, "breakOf", 1, 1);
        edge.is(6, x, "breakOf", 1, 2);
    }

    private static void cutFull() {
        edge.sentence(24, "BREAKS (8) are numbered as they come");
        LandLines x = lineBetween(0, 0, 1, 0, 0);
        for (int b = 0; b < 8; b++) {
            edge.is(b, x, "cut", 0, 0);
        }
        edge.is(FULL, x, "cut", 0, 0);
        edge.is(8, x, "count", 3);
        edge.sentence(24, "BAD; FULL");
        edge.refused(FULL, World.FULL, "cut", 0, 510);
        edge.refused(FULL, World.FULL, "cut", 11, 0);
        edge.refused(BAD, World.FULL, "cut", 12, 0);
        edge.refused(BAD, World.FULL, "cut", 0, 511);
        edge.refused(BAD, World.FULL, "cut", 0, -1);
        edge.refused(FULL, World.EIGHT_OPEN, "cut", 0, 0);
    }

    private static void echoBounds() {
        edge.sentence(25, "BAD: end, v (0 to 198), m (0 to 20)");
        edge.bounds(BAD, World.SOME, 0, 0, 2, "echo", 1, 0, 20, 5);
        edge.bounds(BAD, World.FULL, 0, 0, 7, "echo", 5, 0, 20, 5);
        edge.refused(BAD, World.NOTHING, "echo", 0, 0, 0, 0);
        edge.bounds(BAD, World.SOME, 1, 0, 1, "echo", 1, 0, 20, 5);
        edge.bounds(BAD, World.SOME, 2, 0, 198, "echo", 1, 0, 20, 5);
        edge.bounds(BAD, World.SOME, 3, 0, 20, "echo", 1, 0, 20, 5);
        LandLines x = lineBetween(0, 0, 99, 99, 0);
        x.cut(0, 0);
        edge.is(21, x, "echo", 0, 0, 198, 20);
        edge.is(198, x, "breakOf", 0, 5);
        edge.is(178, x, "breakOf", 0, 4);
        edge.is(1, x, "echo", 0, 1, 0, 0);
        edge.is(198, x, "breakOf", 0, 4);
    }

    private static void echoSpots() {
        edge.sentence(25, "it is v from that end, m more or less");
        LandLines x = lineBetween(0, 0, 50, 0, 0);
        x.cut(0, 0);
        edge.is(41, x, "echo", 0, 0, 25, 20);
        edge.is(5, x, "breakOf", 0, 4);
        edge.is(45, x, "breakOf", 0, 5);
        edge.is(3, x, "echo", 0, 0, 46, 3);
        edge.is(43, x, "breakOf", 0, 4);
        edge.is(45, x, "breakOf", 0, 5);
        edge.is(2, x, "echo", 0, 0, 40, 4);
        edge.is(44, x, "breakOf", 0, 5);
        edge.is(1, x, "echo", 0, 0, 43, 0);
        edge.is(43, x, "breakOf", 0, 4);
        edge.is(43, x, "breakOf", 0, 5);
        edge.sentence(25, "SPOTS: PLACES where it can be (all, at first)");
        x.cut(0, 0);
        edge.is(51, x, "breakOf", 1, 3);
        edge.is(1, x, "echo", 1, 0, 0, 0);
        edge.is(0, x, "breakOf", 1, 5);
    }

    private static void echoBothEnds() {
        edge.sentence(25, "An ECHO from an end (0 the first LAND, 1 the other one)");
        LandLines x = lineBetween(0, 0, 50, 0, 0);
        x.cut(0, 0);
        edge.is(11, x, "echo", 0, 1, 10, 5);
        edge.is(35, x, "breakOf", 0, 4);
        edge.is(45, x, "breakOf", 0, 5);
        edge.is(2, x, "echo", 0, 0, 35, 1);
        edge.is(1, x, "echo", 0, 1, 14, 0);
        edge.is(36, x, "breakOf", 0, 4);
        x.cut(0, 0);
        edge.is(1, x, "echo", 1, 1, 50, 0);
        edge.is(0, x, "breakOf", 1, 4);
        x.cut(0, 0);
        edge.is(1, x, "echo", 2, 1, 70, 20);
        edge.is(0, x, "breakOf", 2, 5);
    }

    private static void echoNoneLeft() {
        edge.sentence(25, "STATE: .. or none would be left");
        edge.refused(STATE, World.SOME, "echo", 1, 0, 69, 20);
        edge.refused(STATE, World.SOME, "echo", 1, 1, 69, 20);
        edge.refused(STATE, World.SOME, "echo", 1, 0, 198, 20);
        edge.refused(STATE, World.SOME, "echo", 2, 0, 33, 0);
        edge.refused(STATE, World.SOME, "echo", 2, 0, 43, 0);
        edge.refused(STATE, World.SOME, "echo", 2, 1, 5, 0);
        edge.refused(STATE, World.SOME, "echo", 2, 1, 15, 0);
        edge.is(1, World.SOME, "echo", 1, 0, 68, 20);
        edge.is(1, World.SOME, "echo", 2, 0, 34, 0);
        edge.is(1, World.SOME, "echo", 2, 0, 42, 0);
        LandLines x = lineBetween(5, 5, 5, 5, 0);
        x.cut(0, 0);
        edge.is(1, x, "echo", 0, 0, 20, 20);
        edge.is(STATE, x, "echo", 0, 0, 21, 20);
        edge.is(STATE, x, "echo", 0, 1, 1, 0);
        edge.is(1, x, "echo", 0, 1, 0, 0);
    }

    private static void echoMendingTold() {
        edge.sentence(25, "STATE: its MENDING is told already");
        edge.refused(STATE, World.SOME, "echo", 0, 0, 20, 5);
        edge.refused(STATE, World.SOME, "echo", 0, 0, 198, 0);
        edge.refused(STATE, World.FULL, "echo", 0, 0, 20, 0);
        edge.refused(STATE, World.FULL, "echo", 1, 1, 20, 0);
        edge.sentence(25, "BAD: end, v (0 to 198), m (0 to 20); STATE");
        edge.refused(BAD, World.SOME, "echo", 0, 2, 20, 5);
        edge.refused(BAD, World.SOME, "echo", 0, 0, 199, 5);
        edge.refused(BAD, World.SOME, "echo", 0, 0, 20, 21);
    }

    private static void breakOfBounds() {
        edge.sentence(26, "Of a BREAK: 0 LINE .. 9 and 10: x, y of the PLACE of its least SPOT. BAD.");
        edge.bounds(BAD, World.SOME, 0, 0, 2, "breakOf", 0, 0);
        edge.bounds(BAD, World.FULL, 0, 0, 7, "breakOf", 0, 0);
        edge.bounds(BAD, World.SOME, 1, 0, 10, "breakOf", 0, 0);
        edge.refused(BAD, World.NOTHING, "breakOf", 0, 0);
    }

    private static void breakOfAtFirst() {
        edge.sentence(26, "6 the HOUR when it is MENDED (NONE: not told yet), 7 the SHIP (NONE), 8 whether it is OPEN");
        LandLines x = lineBetween(0, 99, 99, 0, 0);
        x.cut(0, 0);
        int[] want = {0, 0, 0, 199, 0, 198, NONE, NONE, 1, 0, 99};
        for (int what = 0; what < want.length; what++) {
            edge.is(want[what], x, "breakOf", 0, what);
        }
        x.hour(999);
        edge.is(1, x, "breakOf", 0, 8);
        edge.is(NONE, x, "breakOf", 0, 6);
    }

    private static void breakOfMended() {
        edge.sentence(26, "OPEN: until the HOUR when it is MENDED");
        LandLines x = lineBetween(0, 0, 9, 0, 3);
        x.ship(0, 99, 2);
        x.ship(0, 99, 1);
        x.cut(0, 3);
        x.send(1, 0);
        edge.is(7, x, "breakOf", 0, 6);
        edge.is(1, x, "breakOf", 0, 7);
        x.hour(6);
        edge.is(1, x, "breakOf", 0, 8);
        edge.is(2, x, "lineOf", 0, 7);
        edge.is(1, x, "count", 4);
        x.hour(7);
        edge.is(0, x, "breakOf", 0, 8);
        edge.is(0, x, "lineOf", 0, 7);
        edge.is(0, x, "count", 4);
        edge.is(1, x, "count", 3);
        edge.is(7, x, "breakOf", 0, 6);
        edge.is(1, x, "breakOf", 0, 7);
        x.cut(0, 7);
        edge.is(2, x, "lineOf", 0, 7);
        edge.is(1, x, "count", 4);
    }

    private static void placesOf(int x1, int y1, int... want) {
        LandLines x = lineBetween(20, 30, x1, y1, 0);
        for (int s = 0; 2 * s < want.length; s++) {
            x.cut(0, 0);
            x.echo(s, 0, s, 0);
            edge.is(want[2 * s], x, "breakOf", s, 9);
            edge.is(want[2 * s + 1], x, "breakOf", s, 10);
        }
        edge.is(want.length / 2 - 1, x, "lineOf", 0, 6);
    }

    private static void places() {
        edge.sentence(26, "A PLACE of a LINE at s (0 to LENGTH): s steps from its first LAND on, first along x");
        placesOf(22, 32, 20, 30, 21, 30, 22, 30, 22, 31, 22, 32);
        placesOf(22, 28, 20, 30, 21, 30, 22, 30, 22, 29, 22, 28);
        placesOf(18, 32, 20, 30, 19, 30, 18, 30, 18, 31, 18, 32);
        placesOf(18, 28, 20, 30, 19, 30, 18, 30, 18, 29, 18, 28);
        placesOf(20, 28, 20, 30, 20, 29, 20, 28);
        placesOf(22, 30, 20, 30, 21, 30, 22, 30);
        placesOf(20, 30, 20, 30);
    }

    private static void quakeBounds() {
        edge.sentence(27, "BREAKS (bits) that a QUAKE could have made (reach 0 to 99). BAD.");
        edge.bounds(BAD, World.SOME, 0, 0, 99, "quake", 5, 5, 5, 18);
        edge.bounds(BAD, World.SOME, 1, 0, 99, "quake", 5, 5, 5, 18);
        edge.bounds(BAD, World.SOME, 2, 0, 99, "quake", 5, 5, 5, 18);
        edge.bounds(BAD, World.SOME, 3, 0, 999, "quake", 5, 5, 5, 18);
        edge.bounds(BAD, World.NOTHING, 3, 0, 999, "quake", 5, 5, 5, 18);
    }

    private static void quakeHours() {
        edge.sentence(27, "if that is from this HOUR on, or one or two later");
        LandLines x = lineBetween(5, 5, 5, 9, 999);
        x.cut(0, 999);
        x.cut(0, 0);
        int[] hours = {999, 998, 997, 996, 0, 1};
        int[] want = {1, 1, 1, 0, 2, 0};
        for (int i = 0; i < hours.length; i++) {
            edge.is(want[i], x, "quake", 5, 5, 0, hours[i]);
        }
        x.cut(0, 2);
        x.cut(0, 3);
        edge.is(2 | 4, x, "quake", 5, 5, 0, 0);
        edge.is(4 | 8, x, "quake", 5, 5, 0, 1);
        edge.is(8, x, "quake", 5, 5, 0, 3);
    }

    private static void quakeReach() {
        edge.sentence(27, "one of its SPOTS is no farther than reach");
        LandLines x = lineBetween(10, 10, 20, 20, 0);
        x.cut(0, 0);
        edge.is(1, x, "quake", 10, 10, 0, 0);
        edge.is(1, x, "quake", 20, 10, 0, 0);
        edge.is(1, x, "quake", 20, 20, 0, 0);
        edge.is(1, x, "quake", 15, 10, 0, 0);
        edge.is(1, x, "quake", 20, 15, 0, 0);
        edge.is(0, x, "quake", 15, 11, 0, 0);
        edge.is(0, x, "quake", 10, 20, 9, 0);
        edge.is(1, x, "quake", 10, 20, 10, 0);
        edge.is(0, x, "quake", 99, 99, 99, 1);
        edge.is(1, x, "quake", 60, 79, 99, 0);
        edge.is(0, x, "quake", 60, 80, 99, 0);
        edge.is(1, x, "quake", 0, 0, 20, 0);
        edge.is(0, x, "quake", 0, 0, 19, 0);
        x.echo(0, 0, 10, 1);
        edge.is(0, x, "quake", 18, 10, 0, 0);
        edge.is(1, x, "quake", 19, 10, 0, 0);
        edge.is(1, x, "quake", 20, 11, 0, 0);
        edge.is(0, x, "quake", 20, 12, 0, 0);
        edge.is(1, x, "quake", 18, 11, 2, 0);
        edge.is(0, x, "quake", 18, 11, 1, 0);
    }

    private static void quakeBits() {
        edge.sentence(27, "BREAKS (bits)");
        edge.is(0, World.NOTHING, "quake", 0, 0, 99, 0);
        LandLines x = lineBetween(5, 5, 5, 9, 0);
        for (int b = 0; b < 8; b++) {
            x.cut(0, 0);
        }
        edge.is(255, x, "quake", 5, 5, 0, 0);
        x.echo(3, 0, 4, 0);
        edge.is(255 - 8, x, "quake", 5, 5, 3, 0);
        edge.is(255, x, "quake", 5, 5, 4, 0);
        x.ship(0, 99, 1);
        x.send(0, 0);
        x.hour(99);
        edge.is(255, x, "quake", 5, 5, 4, 0);
    }

    private static void sharedBounds() {
        edge.sentence(28, "two BREAKS with that reach (1, 0). BAD");
        edge.bounds(BAD, World.SOME, 0, 0, 2, "shared", 0, 1, 5);
        edge.bounds(BAD, World.SOME, 1, 0, 2, "shared", 1, 2, 5);
        edge.bounds(BAD, World.FULL, 0, 0, 7, "shared", 1, 3, 5);
        edge.bounds(BAD, World.FULL, 1, 0, 7, "shared", 3, 1, 5);
        edge.bounds(BAD, World.SOME, 2, 0, 99, "shared", 0, 1, 5);
        edge.refused(BAD, World.NOTHING, "shared", 0, 1, 5);
    }

    private static void sharedSame() {
        edge.sentence(28, "BAD: also one and the same");
        for (int b = 0; b < 3; b++) {
            edge.refused(BAD, World.SOME, "shared", b, b, 5);
        }
    }

    /** BREAKS at the first LANDS of LINES that have no LENGTH, at told points. */
    private static LandLines spots(int hour, int... points) {
        LandLines x = new LandLines();
        x.hour(hour);
        for (int i = 0; i + 1 < points.length; i += 2) {
            x.land(points[i], points[i + 1]);
            x.land(points[i], points[i + 1]);
            x.line(i, i + 1, 0, 1, 0, 0);
        }
        return x;
    }

    private static void sharedReach() {
        edge.sentence(28, "Whether one QUAKE somewhere (x, y 0 to 99)");
        LandLines x = spots(0, 0, 0, 99, 99, 0, 99, 1, 0);
        for (int l = 0; l < 4; l++) {
            x.cut(l, 0);
        }
        edge.is(0, x, "shared", 0, 1, 98);
        edge.is(1, x, "shared", 0, 1, 99);
        edge.is(0, x, "shared", 0, 2, 49);
        edge.is(1, x, "shared", 0, 2, 50);
        edge.is(0, x, "shared", 0, 3, 0);
        edge.is(1, x, "shared", 0, 3, 1);
        edge.is(1, x, "shared", 3, 0, 1);
        edge.is(0, x, "shared", 1, 0, 98);
        x.cut(0, 0);
        edge.is(1, x, "shared", 0, 4, 0);
        edge.sentence(28, "one of its SPOTS is no farther than reach");
        LandLines y = lineBetween(10, 10, 20, 20, 0);
        y.land(10, 20);
        y.land(10, 40);
        y.line(2, 3, 0, 1, 0, 0);
        y.cut(0, 0);
        y.cut(1, 0);
        edge.is(0, y, "shared", 0, 1, 4);
        edge.is(1, y, "shared", 0, 1, 5);
        y.echo(0, 0, 10, 0);
        edge.is(0, y, "shared", 0, 1, 9);
        edge.is(1, y, "shared", 0, 1, 10);
        y.echo(1, 1, 0, 0);
        edge.is(0, y, "shared", 1, 0, 19);
        edge.is(1, y, "shared", 1, 0, 20);
    }

    private static void sharedHours() {
        edge.sentence(28, "in some HOUR");
        LandLines x = spots(999, 5, 5);
        int[] hours = {0, 1, 2, 3, 997, 998, 999, 996};
        for (int h : hours) {
            x.cut(0, h);
        }
        edge.is(1, x, "shared", 0, 1, 0);
        edge.is(1, x, "shared", 0, 2, 0);
        edge.is(1, x, "shared", 2, 0, 0);
        edge.is(0, x, "shared", 0, 3, 99);
        edge.is(0, x, "shared", 3, 0, 99);
        edge.is(1, x, "shared", 4, 6, 0);
        edge.is(0, x, "shared", 6, 7, 99);
        edge.is(0, x, "shared", 0, 6, 99);
    }
}
