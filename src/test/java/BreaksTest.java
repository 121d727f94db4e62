/** Promises 24 to 28: BREAKS, ECHOES, QUAKES. */
public final class BreaksTest {
    private static final Due due = new Due();

    public static void main(String[] args) {
        cuts();
        echoes();
        breakOf();
        places();
        quakes();
        shared();
        due.close();
    }

    private static LandLines two(int x0, int y0, int x1, int y1) {
        LandLines x = new LandLines();
        x.land(x0, y0);
        x.land(x1, y1);
        x.line(0, 1, 0, 1, 0, 0);
        return x;
    }

    private static void cuts() {
        LandLines x = two(0, 0, 1, 1);
        due.is("cut(1, 0)", x.cut(1, 0), LandLines.BAD);
        due.is("cut(-1, 0)", x.cut(-1, 0), LandLines.BAD);
        due.is("cut(0, -1)", x.cut(0, -1), LandLines.BAD);
        due.is("cut behind THE HOUR", x.cut(0, 1), LandLines.BAD);
        due.is("LIT", x.lineOf(0, 7), 0);
        x.hour(5);
        for (int b = 0; b < 8; b++) {
            due.is("cut " + b, x.cut(0, Math.min(b, 5)), b);
        }
        due.is("the ninth", x.cut(0, 0), LandLines.FULL);
        due.is("a bad ninth", x.cut(0, 6), LandLines.BAD);
        due.is("BREAKS", x.count(3), 8);
        due.is("OPEN ones", x.count(4), 8);
        due.is("CUT", x.lineOf(0, 7), 2);
    }

    private static void echoes() {
        LandLines x = two(10, 10, 40, 30);
        x.cut(0, 0);
        int[][] bad = {{1, 0, 0, 0}, {-1, 0, 0, 0}, {0, 2, 0, 0}, {0, -1, 0, 0}, {0, 0, -1, 0}, {0, 0, 199, 0},
            {0, 0, 0, -1}, {0, 0, 0, 21}};
        for (int[] b : bad) {
            due.is("echo that is bad", x.echo(b[0], b[1], b[2], b[3]), LandLines.BAD);
        }
        due.is("none would be left", x.echo(0, 0, 71, 20), LandLines.STATE);
        due.is("all SPOTS are left", x.breakOf(0, 3), 51);
        due.is("one at the end", x.echo(0, 0, 70, 20), 1);
        due.is("that is the other LAND", x.breakOf(0, 4), 50);
        x.cut(0, 0);
        due.is("from the other end", x.echo(1, 1, 10, 5), 11);
        due.is("the least", x.breakOf(1, 4), 35);
        due.is("the greatest", x.breakOf(1, 5), 45);
        due.is("198 is told, but beyond", x.echo(1, 1, 198, 20), LandLines.STATE);
        due.is("from the first end", x.echo(1, 0, 35, 0), 1);
        due.is("again", x.echo(1, 0, 35, 0), 1);
        due.is("a neighbour", x.echo(1, 0, 36, 0), LandLines.STATE);
        x.cut(0, 0);
        x.ship(0, 99, 3);
        x.send(0, 2);
        due.is("its MENDING is told", x.echo(2, 0, 0, 20), LandLines.STATE);
        due.is("bad comes first", x.echo(2, 0, 0, 21), LandLines.BAD);
    }

    private static void breakOf() {
        LandLines x = two(10, 10, 5, 30);
        x.hour(7);
        x.cut(0, 4);
        x.echo(0, 0, 9, 3);
        int[] want = {0, 4, 7, 7, 6, 12, LandLines.NONE, LandLines.NONE, 1, 5, 11, LandLines.BAD};
        for (int what = 0; what < want.length; what++) {
            due.is("breakOf(0, " + what + ")", x.breakOf(0, what), want[what]);
        }
        due.is("breakOf(0, -1)", x.breakOf(0, -1), LandLines.BAD);
        due.is("breakOf(1, 0)", x.breakOf(1, 0), LandLines.BAD);
        due.is("breakOf(-1, 0)", x.breakOf(-1, 0), LandLines.BAD);
        x.ship(1, 9, 0);
        x.ship(1, 9, 1);
        due.is("send", x.send(1, 0), 7 + 10 + 4);
        due.is("MENDED", x.breakOf(0, 6), 21);
        due.is("SHIP", x.breakOf(0, 7), 1);
        x.hour(20);
        due.is("OPEN until then", x.breakOf(0, 8), 1);
        due.is("CUT until then", x.lineOf(0, 7), 2);
        x.hour(21);
        due.is("not OPEN from then on", x.breakOf(0, 8), 0);
        due.is("not CUT from then on", x.lineOf(0, 7), 0);
        due.is("OPEN ones", x.count(4), 0);
        due.is("SHIP stays told", x.breakOf(0, 7), 1);
        due.is("MENDED stays told", x.breakOf(0, 6), 21);
    }

    private static void place(LandLines x, int b, int wantX, int wantY) {
        due.is("x of BREAK " + b, x.breakOf(b, 9), wantX);
        due.is("y of BREAK " + b, x.breakOf(b, 10), wantY);
    }

    private static void places() {
        LandLines x = two(20, 30, 17, 26);
        int[][] want = {{20, 30}, {19, 30}, {17, 30}, {17, 29}, {17, 26}};
        int[] at = {0, 1, 3, 4, 7};
        for (int b = 0; b < at.length; b++) {
            x.cut(0, 0);
            x.echo(b, 0, at[b], 0);
            place(x, b, want[b][0], want[b][1]);
        }
        LandLines y = two(3, 3, 3, 3);
        y.cut(0, 0);
        due.is("a LINE without LENGTH", y.breakOf(0, 3), 1);
        place(y, 0, 3, 3);
    }

    private static void quakes() {
        LandLines x = two(10, 10, 20, 20);
        x.hour(6);
        x.cut(0, 5);
        x.cut(0, 6);
        x.echo(1, 0, 0, 0);
        int[] byHour = {0, 0, 0, 1, 3, 3, 2, 0};
        for (int h = 0; h < byHour.length; h++) {
            due.is("quake in " + h, x.quake(10, 10, 0, h), byHour[h]);
        }
        due.is("two from both sides of the corner, reach 1", x.quake(18, 12, 1, 5), 0);
        due.is("two from both sides of the corner, reach 2", x.quake(18, 12, 2, 5), 1);
        due.is("too far", x.quake(15, 15, 4, 5), 0);
        due.is("no farther than reach", x.quake(15, 15, 5, 5), 1);
        due.is("reach for both", x.quake(15, 15, 10, 5), 3);
        int[][] bad = {{-1, 0, 0, 0}, {100, 0, 0, 0}, {0, -1, 0, 0}, {0, 100, 0, 0}, {0, 0, -1, 0}, {0, 0, 100, 0},
            {0, 0, 0, -1}, {0, 0, 0, 1000}};
        for (int[] b : bad) {
            due.is("quake that is bad", x.quake(b[0], b[1], b[2], b[3]), LandLines.BAD);
        }
        due.is("quake at the edge", x.quake(99, 99, 99, 999), 0);
        due.is("quake at the other edge", x.quake(0, 0, 20, 4), 3);
        x.ship(0, 99, 3);
        x.send(0, 1);
        x.hour(99);
        due.is("MENDED ones count", x.quake(10, 10, 0, 5), 3);
    }

    private static void shared() {
        LandLines x = two(0, 0, 0, 9);
        x.land(7, 0);
        x.land(7, 9);
        x.line(2, 3, 0, 1, 0, 0);
        x.hour(5);
        x.cut(0, 1);
        x.cut(1, 3);
        x.cut(1, 4);
        due.is("7 apart, reach 3", x.shared(0, 1, 3), 0);
        due.is("7 apart, reach 4", x.shared(0, 1, 4), 1);
        due.is("the other way round", x.shared(1, 0, 4), 1);
        due.is("three HOURS apart", x.shared(0, 2, 99), 0);
        due.is("at one PLACE", x.shared(1, 2, 0), 1);
        x.echo(1, 0, 0, 0);
        x.echo(2, 0, 9, 0);
        due.is("9 apart, reach 4", x.shared(1, 2, 4), 0);
        due.is("9 apart, reach 5", x.shared(1, 2, 5), 1);
        int[][] bad = {{0, 0, 1}, {3, 0, 1}, {0, 3, 1}, {-1, 0, 1}, {0, -1, 1}, {0, 1, -1}, {0, 1, 100}};
        for (int[] b : bad) {
            due.is("shared that is bad", x.shared(b[0], b[1], b[2]), LandLines.BAD);
        }
    }
}
