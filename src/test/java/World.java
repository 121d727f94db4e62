/** What has been called ahead of an edge: nothing, some of each with places left, all places taken. */
enum World {
    NOTHING, SOME, FULL, EIGHT_OPEN;

    LandLines make() {
        LandLines x = new LandLines();
        fill(x);
        return x;
    }

    /** Fills an object, be it LandLines or the Model. */
    void fill(Object x) {
        switch (this) {
            case SOME: fillSome(x); break;
            case FULL: fillNet(x); fillHands(x); fillRest(x); break;
            case EIGHT_OPEN: fillNet(x); break;
            default: break;
        }
    }

    static void tell(Object x, String text) {
        for (long v : Texts.bytes(text)) {
            Call.ask(x, "feed", v);
        }
        Call.ask(x, "end", text.length());
    }

    static void askAll(Object x, String name, long[]... rows) {
        for (long[] row : rows) {
            if (Call.ask(x, name, row) < 0) {
                throw new IllegalStateException("refused: " + new Call(name, row));
            }
        }
    }

    static long[] row(long... numbers) {
        return numbers;
    }

    /** 4 LANDS, 4 LINES, 3 DEMANDS, 3 BREAKS, 2 SHIPS, 3 PLANS, 2 rents, SHEETS 0 to 2; in YEAR 3, HOUR 20. */
    private static void fillSome(Object x) {
        tell(x, "send 200;need 50;room 6;rent b 0 3 from 2 to 19 for 7;rent f 1 1 from 0 to 999 for 1;");
        Call.ask(x, "rules");
        askAll(x, "land", row(10, 10), row(40, 30), row(12, 50), row(99, 0));
        askAll(x, "line", row(0, 1, 1, 2, 3, 1), row(1, 2, 0, 1, 0, 0), row(2, 0, 1, 3, 0, 5), row(3, 0, 1, 1, 0, 0));
        askAll(x, "demand", row(0, 2, 5), row(2, 1, 6), row(3, 1, 4));
        askAll(x, "year", row(3));
        askAll(x, "hour", row(20));
        askAll(x, "cut", row(0, 18), row(1, 20), row(1, 15));
        askAll(x, "echo", row(0, 0, 20, 5), row(2, 1, 10, 4));
        askAll(x, "ship", row(0, 60, 3), row(2, 99, 1));
        askAll(x, "send", row(0, 0));
        askAll(x, "plan", row(0, 2, 10), row(1, 3, 20), row(0, 1, 5));
        askAll(x, "sheet", row(0, 0, 5), row(1, 1, 3), row(2, 2, 4));
        for (int i = 0; i < 3; i++) {
            askAll(x, "lay", row(0, i, 11 + i), row(1, i, 21 + i), row(2, i, 31 + i));
        }
        tell(x, "loss 2; mend 3 ;");
    }

    /** 8 LANDS, 12 LINES, 12 DEMANDS, 8 BREAKS that are OPEN and in no ship's hands, 3 SHIPS, 8 PLANS. */
    private static void fillNet(Object x) {
        tell(x, "send 600;need 300;splice 9;room 9;sail 7;" + "rent d0 1from480to600for9;".repeat(6)
                + "rent a11 8from0to999for99;");
        Call.ask(x, "rules");
        askAll(x, "land", row(0, 0), row(99, 0), row(99, 99), row(0, 99), row(50, 50), row(50, 50), row(10, 90),
                row(7, 3));
        for (int l = 0; l < 12; l++) {
            askAll(x, "line", row(l % 8, l < 8 ? (l + 1) % 8 : l - 4, l % 2, 1 + l % 8, l == 5 ? 20 : l, 10 * (l % 3)));
            askAll(x, "demand", row((5 * l + 3) % 8, (3 * l) % 8 == (5 * l + 3) % 8 ? l % 7 : (3 * l) % 8, 3 + 2 * l));
        }
        askAll(x, "year", row(99));
        askAll(x, "hour", row(500));
        for (int b = 0; b < 8; b++) {
            askAll(x, "cut", row(b < 2 ? 0 : b + 4, 499 - b));
            Call.ask(x, "echo", b, b % 2, 20, 1 + b);
            askAll(x, "plan", row(b, (b + 2) % 8, 1 + 100 * (b % 3)));
        }
        askAll(x, "ship", row(0, 99, 3), row(4, 99, 3), row(7, 60, 1));
    }

    /** One BREAK is MENDED then, one in a ship's hands, 6 are left. */
    private static void fillHands(Object x) {
        askAll(x, "send", row(0, 0));
        askAll(x, "hour", row(510));
        askAll(x, "send", row(1, 1));
    }

    private static void fillRest(Object x) {
        askAll(x, "sheet", row(0, 0, 40), row(1, 1, 40), row(2, 2, 40), row(3, 0, 0));
        for (int i = 0; i < 40; i += 5) {
            askAll(x, "lay", row(0, i, 99 - i), row(1, i, i), row(2, i, 50 + i));
        }
        tell(x, "age 3;" + "rent c3 4from5to6for7;".repeat(8) + " ".repeat(58));
    }
}
