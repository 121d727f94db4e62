/** Promises 10 to 15: THE TAPE, rules, their faults, rents. */
public final class RulesTest {
    private static final Due due = new Due();

    public static void main(String[] args) {
        tape();
        taken();
        faults();
        whatStays();
        rents();
        due.close();
    }

    private static void tape() {
        LandLines x = new LandLines();
        for (int i = 1; i <= 29; i++) {
            due.is("feed", x.feed(-1L), 8 * i);
        }
        due.is("end(233)", x.end(233), LandLines.BAD);
        due.is("end(-1)", x.end(-1), LandLines.BAD);
        due.is("end(231)", x.end(231), 232);
        due.is("feed to 239", x.feed(0L), 239);
        due.is("feed beyond 240", x.feed(0L), LandLines.FULL);
        due.is("it is as it was", x.count(10), 239);
        x.end(232);
        due.is("feed to 240", x.feed(0L), 240);
        due.is("feed when full", x.feed(0L), LandLines.FULL);
        due.is("end(0)", x.end(0), 240);
        due.is("end(0) again", x.end(0), 0);
        x.feed(0x73656e6420353b20L);
        due.is("the highest byte comes first", x.rules(), 1);
        due.is("send 5", x.rule(0), 5);
        due.is("THE TAPE is empty then", x.count(10), 0);
        x.feed(0x4100000000000000L);
        due.is("a fault", x.rules(), -10);
        due.is("THE TAPE is empty then, too", x.count(10), 0);
    }

    private static void taken() {
        LandLines x = new LandLines();
        due.is("all rules", Due.rules(x, "sail 20;mend 20 ;room 50;age 20;splice020;loss 0;  need 999;send0 ; "), 8);
        int[] want = {0, 999, 0, 20, 20, 50, 20, 20, 0};
        for (int what = 0; what < want.length; what++) {
            due.is("rule(" + what + ")", x.rule(what), want[what]);
        }
        due.is("rule(-1)", x.rule(-1), LandLines.BAD);
        due.is("rule(9)", x.rule(9), LandLines.BAD);
        due.is("no fault", x.fault(), 0);
        due.is("one rule", Due.rules(x, "loss 3;"), 1);
        due.is("the least of room, mend, sail", Due.rules(x, "room 1;mend 1;sail 1;"), 3);
        due.is("room 1, mend 1, sail 1", x.rule(5) + x.rule(6) + x.rule(7), 3);
        due.is("one rule again", Due.rules(x, "loss 3;"), 1);
        int[] rest = {100, 20, 3, 2, 1, 5, 4, 2, 0};
        for (int what = 0; what < rest.length; what++) {
            due.is("what is not told is as at first: " + what, x.rule(what), rest[what]);
        }
        due.is("blanks alone", Due.rules(x, "   "), 0);
        due.is("loss at first", x.rule(2), 1);
    }

    private static void fault(String text, int place, int kind) {
        LandLines x = new LandLines();
        due.is("rules of '" + text + "'", Due.rules(x, text), -10 - place);
        due.is("fault of '" + text + "'", x.fault(), kind);
    }

    private static void faults() {
        fault("send 5;\u0000", 7, 1);
        fault("Send 5;", 0, 1);
        fault("send -5;", 5, 1);
        fault("send 5\t;", 6, 1);
        fault("send 0005;", 5, 1);
        fault("  1234", 2, 1);
        fault("send 12345678901234567890;", 5, 1);
        fault("send 5 1234;", 7, 1);
        fault("rent a 0 1 1234 from 0 to 1 for 1;", 11, 1);
        fault("rent 1234 a 0 1 from 0 to 1 for 1;", 5, 1);
        fault("send`5;", 4, 1);
        fault("send{5;", 4, 1);
        fault("send 5:", 6, 1);
        fault("send 5/", 6, 1);
        fault("send \u00e9", 5, 1);
        fault("5;", 0, 2);
        fault(";", 0, 2);
        fault("sends 5;", 0, 2);
        fault("sen 5;", 0, 2);
        fault("a 5;", 0, 2);
        fault("send;", 4, 2);
        fault("send need", 5, 2);
        fault("send", 4, 2);
        fault("send   ", 7, 2);
        fault("send 5 ", 7, 2);
        fault("send 5 6;", 7, 2);
        fault("send 5;need 6 need 7;", 14, 2);
        fault("loss 21;", 5, 3);
        fault("splice 21;", 7, 3);
        fault("age 21;", 4, 3);
        fault("room 0;", 5, 3);
        fault("room 51;", 5, 3);
        fault("mend 0;", 5, 3);
        fault("mend 21;", 5, 3);
        fault("sail 0;", 5, 3);
        fault("sail 21;", 5, 3);
        fault("sail 21%", 5, 3);
        fault("send 5;send 5;", 7, 4);
        fault("send 5; send %", 8, 4);
        fault("age 1;need 1;age", 13, 4);
        rentFaults();
    }

    private static void rentFaults() {
        fault("rent", 4, 2);
        fault("rent g 0 1 from 0 to 1 for 1;", 5, 2);
        fault("rent aa 0 1 from 0 to 1 for 1;", 5, 2);
        fault("rent 0 0 1 from 0 to 1 for 1;", 5, 2);
        fault("rent a ;", 7, 2);
        fault("rent a 12 1 from 0 to 1 for 1;", 7, 3);
        fault("rent a 11 0 from 0 to 1 for 1;", 10, 3);
        fault("rent a 11 9 from 0 to 1 for 1;", 10, 3);
        fault("rent a 11 8 to 0 to 1 for 1;", 12, 2);
        fault("rent a 11 8 from 999 to 999 for 1;", 17, 3);
        fault("rent a 11 8 from 998 for 999 for 1;", 21, 2);
        fault("rent a 11 8 from 998 to 998 for 1;", 24, 3);
        fault("rent a 11 8 from 5 to 3 for 1;", 22, 3);
        fault("rent a 11 8 from 5 to 6 to 1;", 24, 2);
        fault("rent a 11 8 from 5 to 6 for 100;", 28, 3);
        fault("rent a 11 8 from 5 to 6 for 99", 30, 2);
        fault("rent a 11 8 from 5 to 6 for 99 rent", 31, 2);
        String eight = "rent a0 1from0to1for1;".repeat(8);
        fault(eight + "rent a0 1from0to1for1;", 176, 5);
        fault(eight + " rent%", 177, 5);
        LandLines x = new LandLines();
        due.is("eight rents", Due.rules(x, eight), 8);
        due.is("no fault", x.fault(), 0);
        due.is("rule(8)", x.rule(8), 8);
    }

    private static void whatStays() {
        LandLines x = new LandLines();
        Due.rules(x, "send 7;rent c 3 4 from 5 to 6 for 7;");
        due.is("a fault at the end", Due.rules(x, "send 9;rent d 1 1 from 1 to 2 for 3;need"), -10 - 40);
        due.is("send stays", x.rule(0), 7);
        due.is("one rent stays", x.rule(8), 1);
        due.is("HOUSE stays", x.rent(0, 0), 2);
        due.is("fault", x.fault(), 2);
        due.is("taken", Due.rules(x, "send 9;"), 1);
        due.is("fault is gone", x.fault(), 0);
        due.is("rents are gone", x.rule(8), 0);
        due.is("rent is gone", x.rent(0, 0), LandLines.BAD);
    }

    private static void rents() {
        LandLines x = new LandLines();
        due.is("rules", Due.rules(x, "rent f 11 8 from 998 to 999 for 99;rent a 0 1 from 0 to 1 for 0;"), 2);
        int[][] want = {{5, 11, 8, 998, 999, 99}, {0, 0, 1, 0, 1, 0}};
        for (int k = 0; k < 2; k++) {
            for (int what = 0; what < 6; what++) {
                due.is("rent(" + k + ", " + what + ")", x.rent(k, what), want[k][what]);
            }
        }
        due.is("rent(2, 0)", x.rent(2, 0), LandLines.BAD);
        due.is("rent(-1, 0)", x.rent(-1, 0), LandLines.BAD);
        due.is("rent(0, 6)", x.rent(0, 6), LandLines.BAD);
        due.is("rent(0, -1)", x.rent(0, -1), LandLines.BAD);
    }
}
