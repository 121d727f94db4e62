/** Promises 34 and 35: who is OWED what, and what is PAID, AS KNOWN in an HOUR. */
public final class CoinsTest {
    private static final Due due = new Due();

    public static void main(String[] args) {
        bounds();
        knownLater();
        mended();
        severalBreaks();
        noSuchLine();
        due.close();
    }

    private static LandLines two(String text) {
        LandLines x = new LandLines();
        x.land(0, 0);
        x.land(4, 0);
        x.line(0, 1, 0, 1, 0, 0);
        x.line(0, 1, 0, 1, 0, 0);
        Due.rules(x, text);
        return x;
    }

    private static void both(LandLines x, int h, int e, int owed, int paid) {
        due.is("owed(" + h + ", " + e + ")", x.owed(h, e), owed);
        due.is("paid(" + h + ", " + e + ")", x.paid(h, e), paid);
    }

    private static void bounds() {
        LandLines x = two("rent a 0 1 from 0 to 9 for 1;");
        int[][] bad = {{-1, 0}, {6, 0}, {0, -1}, {0, 1000}};
        for (int[] b : bad) {
            both(x, b[0], b[1], LandLines.BAD, LandLines.BAD);
        }
        both(x, 0, 0, 0, 0);
        both(x, 5, 999, 0, 0);
    }

    private static void knownLater() {
        LandLines x = two("rent a 0 8 from 3 to 10 for 7;rent f 1 1 from 0 to 999 for 99;rent a 1 1 from 0 to 1 for 2;");
        x.hour(3);
        both(x, 0, 999, 0, 2);
        both(x, 5, 999, 0, 3 * 99);
        x.hour(8);
        x.cut(0, 5);
        both(x, 0, 7, 0, 5 * 7 + 2);
        both(x, 0, 8, 3 * 7, 2 * 7 + 2);
        x.hour(9);
        both(x, 0, 7, 0, 6 * 7 + 2);
        both(x, 0, 8, 4 * 7, 2 * 7 + 2);
        x.hour(10);
        both(x, 0, 8, 5 * 7, 2 * 7 + 2);
        x.hour(999);
        both(x, 0, 999, 5 * 7, 2 * 7 + 2);
        both(x, 5, 999, 0, 999 * 99);
    }

    private static void mended() {
        LandLines x = two("rent b 0 1 from 2 to 30 for 3;");
        x.hour(4);
        x.cut(0, 0);
        x.echo(0, 0, 0, 0);
        x.ship(0, 9, 1);
        due.is("send", x.send(0, 0), 8);
        both(x, 1, 4, 2 * 3, 0);
        x.hour(8);
        both(x, 1, 4, 6 * 3, 0);
        x.hour(10);
        both(x, 1, 4, 6 * 3, 2 * 3);
        both(x, 1, 3, 0, 8 * 3);
    }

    /** HOURS with two OPEN ones count once. */
    private static void severalBreaks() {
        LandLines x = two("rent c 0 1 from 0 to 100 for 1;rent c 0 2 from 5 to 7 for 10;");
        x.hour(6);
        x.ship(0, 99, 1);
        x.cut(0, 2);
        x.cut(0, 4);
        x.echo(0, 0, 0, 0);
        x.echo(1, 0, 0, 0);
        due.is("send", x.send(0, 1), 10);
        due.is("send on", x.send(0, 0), 14);
        x.hour(20);
        x.cut(0, 16);
        x.hour(22);
        both(x, 2, 6, 12 + 2 * 10, 10);
        both(x, 2, 20, 12 + 6 + 2 * 10, 4);
        both(x, 2, 19, 12 + 2 * 10, 10);
    }

    private static void noSuchLine() {
        LandLines x = two("rent d 11 1 from 0 to 5 for 4;");
        x.hour(3);
        both(x, 3, 999, 0, 12);
    }
}
