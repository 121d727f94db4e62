/** Promises 10 to 15, a test for each sentence that names an edge. */
public final class EdgeRulesTest {
    private static final int BAD = LandLines.BAD, FULL = LandLines.FULL;
    private static final String[] NAMES = {"send", "need", "loss", "splice", "age", "room", "mend", "sail"};
    private static final int[] LOW = {0, 0, 0, 0, 0, 1, 1, 1};
    private static final int[] HIGH = {999, 999, 20, 20, 20, 50, 20, 20};
    private static final String RENT = "rent a0 1from0to1for1;";
    private static final Edge edge = new Edge();

    public static void main(String[] args) {
        feedHighestFirst();
        feedFull();
        feedFullKeeps();
        endBounds();
        endKeepsFirst();
        rulesOfNothing();
        rulesOfAllThatFits();
        tapeIsEmptyThen();
        toldStays();
        tokensAsLongAsMayBe();
        blanksBetween();
        noToken();
        numberTooLong();
        canNotStandThere();
        noHouse();
        theEnd();
        numbersInBounds();
        rentNumbersInBounds();
        toldAlready();
        ninthRent();
        firstMet();
        notTold();
        faultOfLatest();
        ruleBounds();
        rentBounds();
        edge.close();
    }

    private static void feedHighestFirst() {
        edge.sentence(10, "Eight bytes come behind THE TAPE, the highest first: how many it has");
        LandLines x = new LandLines();
        edge.is(8, x, "feed", 0x6c6f737320202020L);
        edge.is(16, x, "feed", 0x2020202020377b20L);
        edge.is(14, "place of the byte behind the 7: 123 is no TOKEN", -10 - x.rules());
        edge.is(1, x, "fault");
        edge.is(8, x, "feed", 0x6c6f737320373b20L);
        edge.is(1, x, "rules");
        edge.is(7, x, "rule", 2);
        edge.sentence(10, "bytes");
        for (long v : new long[] {-1L, Long.MIN_VALUE, 0L, Long.MAX_VALUE}) {
            edge.is(8, x, "feed", v);
            edge.is(-10, x, "rules");
            edge.is(1, x, "fault");
        }
    }

    private static void feedFull() {
        edge.sentence(10, "FULL: more than 240");
        LandLines x = new LandLines();
        for (int n = 8; n <= 240; n += 8) {
            edge.is(n, x, "feed", 0x2020202020202020L);
        }
        for (int n = 240; n > 232; n--) {
            edge.is(FULL, x, "feed", 0L);
            edge.is(n, x, "end", n - 1);
        }
        edge.is(240, x, "feed", 0x2020202020202020L);
        edge.is(240, x, "count", 10);
        edge.is(240, x, "end", 225);
        edge.is(233, x, "feed", 0x2020202020202020L);
        edge.is(0, x, "rules");
    }

    private static void feedFullKeeps() {
        edge.sentence(10, "what is refused changes nothing (but THE TAPE, as told)");
        edge.refused(FULL, World.FULL, "feed", 0x736e642020352020L);
        edge.refused(FULL, World.FULL, "feed", -1L);
    }

    private static void endBounds() {
        edge.sentence(11, "THE TAPE keeps its first n bytes: .. BAD.");
        edge.bounds(BAD, World.SOME, 0, 0, 16, "end", 5);
        edge.bounds(BAD, World.FULL, 0, 0, 240, "end", 5);
        edge.bounds(BAD, World.NOTHING, 0, 0, 0, "end", 0);
        edge.refused(BAD, World.SOME, "end", 240);
        edge.refused(BAD, World.NOTHING, "end", 1);
    }

    private static void endKeepsFirst() {
        edge.sentence(11, "how many it had");
        LandLines x = World.SOME.make();
        edge.is(16, x, "end", 16);
        edge.is(16, x, "count", 10);
        edge.is(16, x, "end", 7);
        edge.is(7, x, "end", 7);
        edge.is(1, x, "rules");
        edge.is(2, x, "rule", 2);
        edge.is(4, x, "rule", 6);
        edge.is(0, x, "end", 0);
        LandLines y = World.SOME.make();
        edge.is(16, y, "end", 0);
        edge.is(0, y, "end", 0);
        edge.is(BAD, y, "end", 1);
        edge.is(0, y, "rules");
    }

    private static void rulesOfNothing() {
        edge.sentence(12, "text: { line }");
        edge.taken(0, "");
        edge.taken(0, " ");
        edge.taken(0, " ".repeat(240));
        edge.is(0, World.NOTHING, "rules");
    }

    private static void rulesOfAllThatFits() {
        edge.sentence(12, "THE TAPE has 240 bytes, places from 0");
        String all = "send1;need1;loss1;splice1;age1;room1;mend1;sail1;" + RENT.repeat(8);
        edge.taken(16, all);
        LandLines x = edge.taken(16, " ".repeat(240 - all.length()) + all);
        edge.is(8, x, "rule", 8);
        edge.is(1, x, "rule", 7);
        edge.faulty(239, 1, " ".repeat(239) + "%");
        edge.faulty(239, 2, " ".repeat(239) + ";");
        edge.faulty(240, 2, " ".repeat(236) + "send");
        edge.faulty(240, 2, "send" + " ".repeat(236));
        edge.faulty(0, 2, "x".repeat(240));
        edge.faulty(0, 1, "7".repeat(240));
        edge.faulty(0, 2, ";".repeat(240));
        edge.faulty(0, 1, "\u00ff".repeat(240));
    }

    private static void tapeIsEmptyThen() {
        edge.sentence(12, "THE TAPE (empty then) tells the rules");
        LandLines x = World.FULL.make();
        edge.is(9, x, "rules");
        edge.is(0, x, "count", 10);
        edge.is(0, x, "rules");
        edge.is(100, x, "rule", 0);
        for (int n = 8; n <= 240; n += 8) {
            edge.is(n, x, "feed", 0x2020202020202020L);
        }
        edge.is(FULL, x, "feed", 0L);
        edge.is(0, x, "rules");
        edge.is(8, x, "feed", 0x2525252525252525L);
        edge.is(-10, x, "rules");
        edge.is(0, x, "count", 10);
        edge.is(8, x, "feed", 0x6c6f737320373b20L);
        edge.is(1, x, "rules");
        edge.is(7, x, "rule", 2);
    }

    private static void toldStays() {
        edge.sentence(12, "those that were told stay");
        edge.faulty(11, 2, "loss 3;need");
        edge.faulty(45, 2, "send 999;need 0;rent c 5 5 from 5 to 6 for 5 5");
        edge.faulty(49, 1, "send1;need1;loss1;splice1;age1;room1;mend1;sail1;#");
    }

    private static void tokensAsLongAsMayBe() {
        edge.sentence(12, "TOKENS, each as long as may be");
        edge.faulty(0, 2, "sendneed 1;");
        edge.faulty(0, 2, "sends 1;");
        edge.faulty(0, 2, "sen 1;");
        edge.faulty(0, 2, "rents a 0 1 from 0 to 1 for 1;");
        edge.faulty(5, 2, "rent ab 0 1 from 0 to 1 for 1;");
        edge.is(999, edge.taken(1, "send999;"), "rule", 0);
        edge.is(7, edge.taken(1, "send007;"), "rule", 0);
        edge.is(0, edge.taken(1, "send 000;"), "rule", 0);
        LandLines x = edge.taken(1, "rent f11 8from998to999for99;");
        int[] want = {5, 11, 8, 998, 999, 99};
        for (int what = 0; what < 6; what++) {
            edge.is(want[what], x, "rent", 0, what);
        }
        edge.faulty(6, 1, "rent a11018from998to999for99;");
    }

    private static void blanksBetween() {
        edge.sentence(12, "blanks (32) between");
        edge.is(8, edge.taken(1, "   send   8   ;   "), "rule", 0);
        edge.faulty(0, 2, "se nd 8;");
        edge.faulty(7, 2, "send 1 2;");
        edge.faulty(5, 2, "send ;");
        for (char c : new char[] {0, 9, 10, 13, 31, 33, 127, 160, 255}) {
            edge.faulty(4, 1, "send" + c + "8;");
        }
    }

    private static void noToken() {
        edge.sentence(12, "1 no TOKEN");
        for (char c : new char[] {'A', 'Z', '`', '{', '/', ':', '<', '-', '+', '.', ',', '_', 128, 225}) {
            edge.faulty(0, 1, c + "send 8;");
            edge.faulty(5, 1, "send " + c + "8;");
            edge.faulty(7, 1, "send 8;" + c);
        }
        edge.sentence(12, "NAMES (a .. z)");
        edge.faulty(0, 2, "a");
        edge.faulty(0, 2, "z");
        edge.sentence(12, "NUMBERS (1 to 3 figures)");
        edge.is(0, edge.taken(1, "send 0;"), "rule", 0);
        edge.is(9, edge.taken(1, "send 9;"), "rule", 0);
        edge.is(10, edge.taken(1, "send 10;"), "rule", 0);
        edge.is(100, edge.taken(1, "send 100;"), "rule", 0);
    }

    private static void numberTooLong() {
        edge.sentence(12, "a NUMBER that is too long (its first byte)");
        edge.faulty(5, 1, "send 1000;");
        edge.faulty(5, 1, "send 0000;");
        edge.faulty(6, 1, " send 0001;");
        edge.faulty(5, 1, "send 4294967297;");
        edge.faulty(5, 1, "send 18446744073709551617;");
        edge.faulty(0, 1, "1000");
        edge.faulty(7, 1, "send 1 1000;");
        edge.faulty(5, 1, "rent 1000");
    }

    private static void canNotStandThere() {
        edge.sentence(12, "2 a TOKEN that can not stand there (a NAME that begins no line");
        for (String name : new String[] {"from", "to", "for", "a", "f", "sen", "rentt", "n"}) {
            edge.faulty(7, 2, "loss 1;" + name + " 1;");
        }
        edge.faulty(0, 2, "1;");
        edge.faulty(0, 2, ";");
        edge.faulty(7, 2, "loss 1;;");
        for (String name : NAMES) {
            edge.faulty(name.length() + 1, 2, name + " ;");
            edge.faulty(name.length() + 1, 2, name + " x;");
            edge.faulty(name.length() + 3, 2, name + " 1 need");
        }
        String[] wrong = {"rent ;", "rent 0", "rent a ;", "rent a b", "rent a 0 ;", "rent a 0 from", "rent a 0 1 2",
            "rent a 0 1 ;", "rent a 0 1 to", "rent a 0 1 from ;", "rent a 0 1 from to", "rent a 0 1 from 0 1",
            "rent a 0 1 from 0 ;", "rent a 0 1 from 0 for", "rent a 0 1 from 0 to ;", "rent a 0 1 from 0 to for",
            "rent a 0 1 from 0 to 1 1", "rent a 0 1 from 0 to 1 ;", "rent a 0 1 from 0 to 1 from",
            "rent a 0 1 from 0 to 1 for ;", "rent a 0 1 from 0 to 1 for a", "rent a 0 1 from 0 to 1 for 1 1",
            "rent a 0 1 from 0 to 1 for 1 rent"};
        for (String text : wrong) {
            edge.faulty(text.lastIndexOf(' ') + 1, 2, text);
        }
    }

    private static void noHouse() {
        edge.sentence(12, "or is no HOUSE");
        for (String house : new String[] {"g", "z", "aa", "ab", "fa", "from", "rent"}) {
            edge.faulty(5, 2, "rent " + house + " 0 1 from 0 to 1 for 1;");
        }
        edge.sentence(12, "a HOUSE (a NAME of one letter, a to f)");
        for (int h = 0; h < 6; h++) {
            edge.is(h, edge.taken(1, "rent " + (char) ('a' + h) + " 0 1 from 0 to 1 for 1;"), "rent", 0, 0);
        }
    }

    private static void theEnd() {
        edge.sentence(12, "or the end: the length");
        String whole = "rent a 0 1 from 0 to 1 for 1;";
        for (int n = 1; n < whole.length(); n++) {
            if (whole.charAt(n - 1) == ' ' || whole.charAt(n) == ' ' || n == whole.length() - 1) {
                edge.faulty(n, 2, whole.substring(0, n));
            }
        }
        edge.faulty(11, 2, "rent a 0   ");
        edge.faulty(4, 2, "send");
        edge.faulty(6, 2, "send  ");
        edge.faulty(6, 2, "send 1");
        edge.faulty(8, 2, "send 1  ");
    }

    private static void numbersInBounds() {
        for (int k = 0; k < NAMES.length; k++) {
            edge.sentence(12, NAMES[k] + ": " + LOW[k] + " to " + HIGH[k]);
            edge.is(LOW[k], edge.taken(1, NAMES[k] + " " + LOW[k] + ";"), "rule", k);
            edge.is(HIGH[k], edge.taken(1, NAMES[k] + " " + HIGH[k] + ";"), "rule", k);
            if (LOW[k] > 0) {
                edge.faulty(NAMES[k].length() + 1, 3, NAMES[k] + " " + (LOW[k] - 1) + ";");
            }
            // 1000 is no TOKEN already
            edge.faulty(NAMES[k].length() + 1, HIGH[k] == 999 ? 1 : 3, NAMES[k] + " " + (HIGH[k] + 1) + ";");
            if (HIGH[k] < 999) {
                edge.faulty(NAMES[k].length() + 1, 3, NAMES[k] + " 999;");
            }
        }
    }

    private static void rentNumbersInBounds() {
        edge.sentence(12, "a LINE (0 to 11)");
        edge.is(11, edge.taken(1, "rent a 11 1 from 0 to 1 for 1;"), "rent", 0, 1);
        edge.is(0, edge.taken(1, "rent a 0 1 from 0 to 1 for 1;"), "rent", 0, 1);
        edge.faulty(7, 3, "rent a 12 1 from 0 to 1 for 1;");
        edge.sentence(12, "FIBRES (1 to 8)");
        edge.is(1, edge.taken(1, "rent a 0 1 from 0 to 1 for 1;"), "rent", 0, 2);
        edge.is(8, edge.taken(1, "rent a 0 8 from 0 to 1 for 1;"), "rent", 0, 2);
        edge.faulty(9, 3, "rent a 0 0 from 0 to 1 for 1;");
        edge.faulty(9, 3, "rent a 0 9 from 0 to 1 for 1;");
        edge.sentence(12, "HOURS from (0 to 998)");
        edge.is(0, edge.taken(1, "rent a 0 1 from 0 to 999 for 1;"), "rent", 0, 3);
        edge.is(998, edge.taken(1, "rent a 0 1 from 998 to 999 for 1;"), "rent", 0, 3);
        edge.faulty(16, 3, "rent a 0 1 from 999 to 999 for 1;");
        edge.sentence(12, "and to (above from, 999 at most)");
        edge.is(6, edge.taken(1, "rent a 0 1 from 5 to 6 for 1;"), "rent", 0, 4);
        edge.is(999, edge.taken(1, "rent a 0 1 from 5 to 999 for 1;"), "rent", 0, 4);
        edge.faulty(21, 3, "rent a 0 1 from 5 to 5 for 1;");
        edge.faulty(21, 3, "rent a 0 1 from 5 to 4 for 1;");
        edge.faulty(21, 3, "rent a 0 1 from 0 to 0 for 1;");
        edge.faulty(21, 1, "rent a 0 1 from 5 to 1000 for 1;");
        edge.sentence(12, "coins an hour (0 to 99)");
        edge.is(0, edge.taken(1, "rent a 0 1 from 0 to 1 for 0;"), "rent", 0, 5);
        edge.is(99, edge.taken(1, "rent a 0 1 from 0 to 1 for 99;"), "rent", 0, 5);
        edge.faulty(27, 3, "rent a 0 1 from 0 to 1 for 100;");
    }

    private static void toldAlready() {
        edge.sentence(12, "4 what is told already (its NAME; not rent)");
        for (String name : NAMES) {
            String line = name + " 1;";
            edge.faulty(line.length(), 4, line + line);
            edge.faulty(line.length() + 1, 4, line + " " + name);
            edge.faulty(line.length() + RENT.length(), 4, line + RENT + line);
        }
        edge.is(2, edge.taken(2, RENT + RENT), "rule", 8);
    }

    private static void ninthRent() {
        edge.sentence(12, "5 the 9th rent (its NAME)");
        edge.is(8, edge.taken(8, RENT.repeat(8)), "rule", 8);
        edge.faulty(176, 5, RENT.repeat(9));
        edge.faulty(178, 5, RENT.repeat(8) + "  rent");
        edge.faulty(183, 5, RENT.repeat(4) + "loss 1;" + RENT.repeat(5));
    }

    private static void firstMet() {
        edge.sentence(12, "FAULTS, the first met as it is read (a TOKEN is read when the one before has been taken)");
        edge.faulty(0, 2, "foo %");
        edge.faulty(5, 3, "loss 21%");
        edge.faulty(5, 3, "loss 21 1000");
        edge.faulty(5, 2, "loss x%");
        edge.faulty(7, 4, "loss 1;loss%");
        edge.faulty(7, 4, "loss 1;loss 1000");
        edge.faulty(6, 1, "loss 1%loss 1;");
        edge.faulty(5, 2, "rent g%");
        edge.faulty(7, 3, "rent a 12%");
        edge.faulty(176, 5, RENT.repeat(8) + "rent%");
        edge.faulty(176, 5, RENT.repeat(8) + "rent g");
        edge.faulty(5, 3, "loss 21;loss 1;loss 1;");
    }

    private static void notTold() {
        edge.sentence(12, "What is not told: send 100, need 20, loss 1, splice 2, age 1, room 5, mend 4, sail 2");
        int[] first = {100, 20, 1, 2, 1, 5, 4, 2, 0};
        LandLines none = edge.taken(0, "");
        for (int what = 0; what < 9; what++) {
            edge.is(first[what], none, "rule", what);
        }
        for (int k = 0; k < NAMES.length; k++) {
            LandLines x = edge.taken(1, NAMES[k] + " 13;");
            for (int what = 0; what < 9; what++) {
                edge.is(what == k ? 13 : first[what], x, "rule", what);
            }
        }
        edge.is(BAD, edge.taken(1, RENT), "rent", 1, 0);
    }

    private static void faultOfLatest() {
        edge.sentence(13, "The FAULT of the latest rules(); 0");
        LandLines x = new LandLines();
        edge.is(0, x, "fault");
        String[] texts = {"%", ";", "room 0;", "age 1;age", RENT.repeat(8) + "rent"};
        for (int kind = 1; kind <= 5; kind++) {
            Due.rules(x, texts[kind - 1]);
            edge.is(kind, x, "fault");
        }
        x.end(-1);
        x.feed(0x2525252525252525L);
        edge.is(5, x, "fault");
        x.end(0);
        edge.is(0, x, "rules");
        edge.is(0, x, "fault");
        Due.rules(x, "%");
        edge.is(1, x, "fault");
        Due.rules(x, "age 2;");
        edge.is(0, x, "fault");
    }

    private static void ruleBounds() {
        edge.sentence(14, "What holds: 0 send .. 8 how many rents. BAD.");
        edge.bounds(BAD, World.SOME, 0, 0, 8, "rule", 3);
        edge.bounds(BAD, World.NOTHING, 0, 0, 8, "rule", 3);
        edge.is(2, World.SOME, "rule", 8);
        edge.is(7, World.FULL, "rule", 8);
    }

    private static void rentBounds() {
        edge.sentence(15, "Of a rent: 0 HOUSE (a is 0), 1 LINE, 2 FIBRES, 3 from, 4 to, 5 coins. BAD.");
        edge.bounds(BAD, World.SOME, 0, 0, 1, "rent", 0, 0);
        edge.bounds(BAD, World.SOME, 1, 0, 5, "rent", 0, 0);
        LandLines x = edge.taken(8, RENT.repeat(7) + "rent f 11 8 from 998 to 999 for 99;");
        int[][] want = {{0, 0, 1, 0, 1, 1}, {5, 11, 8, 998, 999, 99}};
        for (int what = 0; what < 6; what++) {
            edge.is(want[0][what], x, "rent", 6, what);
            edge.is(want[1][what], x, "rent", 7, what);
        }
        edge.is(BAD, x, "rent", 8, 0);
        edge.is(BAD, x, "rent", -1, 0);
        edge.sentence(15, "no rents");
        edge.refused(BAD, World.NOTHING, "rent", 0, 0);
        Due.rules(x, "");
        edge.is(BAD, x, "rent", 0, 0);
    }
}
