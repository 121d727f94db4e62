import java.util.Arrays;

/**
 * Lines between lands: their light, traffic, breaks, ships, rents and plans.
 *
 * Every row is made once, with the object, and used again by each call, so that
 * no call makes an object. No method throws: what is not as told is answered by a code.
 */
public final class LandLines {
    public static final int BAD = -1, STATE = -2, FULL = -3, NONE = -4, SPENT = -6;

    private static final int NO_LIGHT = -10000;
    private static final int LAST_YEAR = 99;
    private static final int LAST_HOUR = 999;
    private static final int HOUSES = 6;
    private static final int LAST_PLACE = 99;
    private static final int MOST_ROOM = 400;
    private static final int FAULT_BASE = -10;

    private final Rules laws;
    private final Reader tape;
    private final Net net;
    private final Breaks breaks;
    private final Spans demands;
    private final Traffic traffic;
    private final Fleet fleet;
    private final Mending mending;
    private final Spans plans;
    private final Safety safety;
    private final Sheets sheets;

    public LandLines() {
        laws = new Rules();
        tape = new Reader();
        net = new Net(laws);
        breaks = new Breaks(net);
        demands = new Spans(Traffic.DEMANDS);
        traffic = new Traffic(net, breaks, demands);
        fleet = new Fleet(net, breaks, laws);
        mending = new Mending(breaks, fleet, traffic);
        plans = new Spans(Safety.PLANS);
        safety = new Safety(net, plans);
        sheets = new Sheets();
    }

    // ---- lands, lines

    public int land(int x, int y) {
        if (!isWithin(x, 0, LAST_PLACE) || !isWithin(y, 0, LAST_PLACE)) {
            return BAD;
        }
        return net.addLand(x, y);
    }

    public int line(int from, int to, int wet, int fibres, int splices, int year) {
        if (!areTwoLands(from, to) || !isWithin(wet, 0, 1) || !isWithin(year, 0, LAST_YEAR)) {
            return BAD;
        }
        if (!isWithin(fibres, 1, Net.MOST_FIBRES) || !isWithin(splices, 0, Net.MOST_SPLICES)) {
            return BAD;
        }
        int l = net.addLine(from, to);
        if (l >= 0) {
            net.wet[l] = wet;
            net.fibres[l] = fibres;
            net.splices[l] = splices;
            net.laid[l] = year;
        }
        return l;
    }

    public int lineOf(int l, int what) {
        if (!net.hasLine(l)) {
            return BAD;
        }
        switch (what) {
            case 0: return net.from[l];
            case 1: return net.to[l];
            case 2: return net.wet[l];
            case 3: return net.fibres[l];
            case 4: return net.splices[l];
            case 5: return net.laid[l];
            case 6: return net.length[l];
            case 7: return breaks.stateOf(l);
            case 8: return breaks.roomOf(l, false);
            case 9: return traffic.goesBy(l);
            case 10: return traffic.ahead(l);
            default: return BAD;
        }
    }

    public int light(int l) {
        return net.hasLine(l) ? net.lightIn(l, net.theYear) : NO_LIGHT;
    }

    public int until(int l) {
        if (!net.hasLine(l)) {
            return BAD;
        }
        for (int v = 0; v <= LAST_YEAR; v++) {
            if (net.lightIn(l, v) < laws.told[Rules.NEED]) {
                return v;
            }
        }
        return NONE;
    }

    public int change(int l, int v, int f) {
        if (!net.hasLine(l) || !isWithin(v, 0, Net.MOST_SPLICES) || !isWithin(f, 1, Net.MOST_FIBRES)) {
            return BAD;
        }
        int had = net.splices[l];
        net.splices[l] = v;
        net.fibres[l] = f;
        return had;
    }

    public int year(int v) {
        if (!isWithin(v, net.theYear, LAST_YEAR)) {
            return BAD;
        }
        int was = net.theYear;
        net.theYear = v;
        return was;
    }

    public int hour(int v) {
        if (!isWithin(v, breaks.theHour, LAST_HOUR)) {
            return BAD;
        }
        int was = breaks.theHour;
        breaks.theHour = v;
        return was;
    }

    // ---- rules

    public int feed(long v) {
        return tape.takeBytes(v);
    }

    public int end(int n) {
        return tape.keepFirst(n);
    }

    public int rules() {
        return tape.tell(laws);
    }

    public int fault() {
        return tape.faultKind;
    }

    public int rule(int what) {
        if (what == Rules.KINDS) {
            return laws.rentCount;
        }
        return isWithin(what, 0, Rules.KINDS - 1) ? laws.told[what] : BAD;
    }

    public int rent(int k, int what) {
        if (!isWithin(k, 0, laws.rentCount - 1) || !isWithin(what, 0, Rules.RENT_PARTS - 1)) {
            return BAD;
        }
        return laws.rents[k][what];
    }

    // ---- traffic

    public int demand(int from, int to, int much) {
        if (!areTwoLands(from, to) || !isWithin(much, 1, Traffic.MOST_MUCH)) {
            return BAD;
        }
        return demands.add(from, to, much);
    }

    public int much(int d, int v) {
        if (!demands.has(d) || !isWithin(v, 0, Traffic.MOST_MUCH)) {
            return BAD;
        }
        int was = demands.amount[d];
        demands.amount[d] = v;
        return was;
    }

    public int led(int what) {
        if (!isWithin(what, 0, 2)) {
            return BAD;
        }
        traffic.keepRooms(false);
        int lost = traffic.lead(Traffic.NO_LINE);
        if (what == 0) {
            return traffic.gone;
        }
        return what == 1 ? lost : traffic.lostBits;
    }

    public int way(int d, int i) {
        if (!demands.has(d) || i < 0) {
            return BAD;
        }
        traffic.keepRooms(false);
        traffic.lead(Traffic.NO_LINE);
        return traffic.stepOf(d, i);
    }

    public int parts(int l, int m, int r) {
        if (!net.hasLine(l) || !net.hasLine(m) || !isWithin(r, 0, MOST_ROOM)) {
            return BAD;
        }
        traffic.keepRooms(false);
        return traffic.heapsWithout(l, m, r);
    }

    public int worst(int r, int what) {
        if (!isWithin(r, 0, MOST_ROOM) || !isWithin(what, 0, 1)) {
            return BAD;
        }
        traffic.keepRooms(false);
        int most = 0;
        int pair = NONE;
        for (int l = 0; l < net.lineCount; l++) {
            for (int m = l + 1; m < net.lineCount; m++) {
                int heaps = traffic.heapsWithout(l, m, r);
                if (heaps > most) {
                    most = heaps;
                    pair = 100 * l + m;
                }
            }
        }
        return what == 0 || pair == NONE ? pair : most;
    }

    public int swing(int t, int d, int i) {
        if (!isWithin(t, 0, Traffic.LAST_TURN) || !demands.has(d) || i < 0) {
            return BAD;
        }
        traffic.keepRooms(false);
        traffic.swingUntilBack();
        traffic.chooseAll(traffic.sameTurn(t));
        return traffic.stepOf(d, i);
    }

    public int swings(int what) {
        if (!isWithin(what, 0, 3)) {
            return BAD;
        }
        traffic.keepRooms(false);
        if (!traffic.swingUntilBack()) {
            return SPENT;
        }
        switch (what) {
            case 0: return traffic.backFrom;
            case 1: return traffic.round;
            case 2: return traffic.greatestLoad();
            default: return traffic.overfull();
        }
    }

    // ---- breaks

    public int cut(int l, int hour) {
        if (!net.hasLine(l) || !isWithin(hour, 0, breaks.theHour)) {
            return BAD;
        }
        return breaks.add(l, hour);
    }

    public int echo(int b, int end, int v, int m) {
        if (!breaks.has(b) || !isWithin(end, 0, 1)) {
            return BAD;
        }
        if (!isWithin(v, 0, Net.MOST_LENGTH) || !isWithin(m, 0, Breaks.MOST_MISS)) {
            return BAD;
        }
        return breaks.isInHands(b) ? STATE : breaks.narrow(b, end, v, m);
    }

    public int breakOf(int b, int what) {
        if (!breaks.has(b)) {
            return BAD;
        }
        int l = breaks.line[b];
        switch (what) {
            case 0: return l;
            case 1: return breaks.since[b];
            case 2: return breaks.said[b];
            case 3: return breaks.greatest[b] - breaks.least[b] + 1;
            case 4: return breaks.least[b];
            case 5: return breaks.greatest[b];
            case 6: return breaks.isInHands(b) ? breaks.mended[b] : NONE;
            case 7: return breaks.isInHands(b) ? breaks.ship[b] : NONE;
            case 8: return breaks.isOpen(b) ? 1 : 0;
            case 9: return net.placeX(l, breaks.least[b]);
            case 10: return net.placeY(l, breaks.least[b]);
            default: return BAD;
        }
    }

    public int quake(int x, int y, int reach, int hour) {
        if (!isWithin(x, 0, LAST_PLACE) || !isWithin(y, 0, LAST_PLACE)) {
            return BAD;
        }
        if (!isWithin(reach, 0, Breaks.MOST_REACH) || !isWithin(hour, 0, LAST_HOUR)) {
            return BAD;
        }
        int bits = 0;
        for (int b = 0; b < breaks.size; b++) {
            boolean inTime = isWithin(breaks.since[b], hour, hour + Breaks.QUAKE_LAG);
            if (inTime && breaks.farFrom(b, x, y) <= reach) {
                bits |= 1 << b;
            }
        }
        return bits;
    }

    public int shared(int b, int c, int reach) {
        if (!breaks.has(b) || !breaks.has(c) || b == c || !isWithin(reach, 0, Breaks.MOST_REACH)) {
            return BAD;
        }
        return breaks.couldShare(b, c, reach) ? 1 : 0;
    }

    // ---- ships

    public int ship(int land, int reel, int leave) {
        if (!net.hasLand(land) || !isWithin(reel, 0, Fleet.MOST_REEL) || !isWithin(leave, 0, 3)) {
            return BAD;
        }
        return fleet.add(land, reel, leave);
    }

    public int shipOf(int s, int what) {
        if (!fleet.has(s)) {
            return BAD;
        }
        switch (what) {
            case 0: return fleet.x[s];
            case 1: return fleet.y[s];
            case 2: return fleet.reel[s];
            case 3: return fleet.leave[s];
            case 4: return fleet.freeFrom[s];
            default: return BAD;
        }
    }

    public int send(int s, int b) {
        if (!fleet.has(s) || !breaks.has(b)) {
            return BAD;
        }
        if (!breaks.isOpen(b) || breaks.isInHands(b) || !fleet.mayMend(s, b)) {
            return STATE;
        }
        return fleet.takeInHands(s, b);
    }

    public int order(int what) {
        int b = what - 10;
        if (what != 0 && what != 1 && !breaks.has(b)) {
            return BAD;
        }
        if (!mending.gather()) {
            return STATE;
        }
        if (what == 1) {
            return mending.jobBits();
        }
        mending.weigh();
        mending.measure();
        if (!mending.findBest()) {
            return NONE;
        }
        return what == 0 ? mending.bestCost : mending.bestShipOf(b);
    }

    public int plain(int what) {
        if (!isWithin(what, 0, 1)) {
            return BAD;
        }
        if (!mending.gather()) {
            return STATE;
        }
        mending.weigh();
        mending.goPlainly();
        return what == 0 ? mending.plainCost : mending.plainLeft();
    }

    // ---- who is owed

    public int owed(int h, int e) {
        if (!isWithin(h, 0, HOUSES - 1) || !isWithin(e, 0, LAST_HOUR)) {
            return BAD;
        }
        return coinsOf(h, e, true);
    }

    public int paid(int h, int e) {
        if (!isWithin(h, 0, HOUSES - 1) || !isWithin(e, 0, LAST_HOUR)) {
            return BAD;
        }
        return coinsOf(h, e, false);
    }

    // ---- plans

    public int plan(int from, int to, int coins) {
        if (!areTwoLands(from, to) || !isWithin(coins, 1, Safety.MOST_COINS)) {
            return BAD;
        }
        return plans.add(from, to, coins);
    }

    public int safe(int lands, int what) {
        if (!isWithin(lands, 0, (1 << net.landCount) - 1) || !isWithin(what, 0, 1)) {
            return BAD;
        }
        if (!safety.findBest(lands)) {
            return NONE;
        }
        return what == 0 ? safety.bestCoins : safety.bestBits;
    }

    // ---- sheets

    public int sheet(int k, int lane, int n) {
        if (!sheets.has(k) || !sheets.isLane(lane) || n > Sheets.MOST_CELLS) {
            return BAD;
        }
        return n < 0 ? FAULT_BASE - Sheets.SIZE_FAULT : sheets.begin(k, lane, n);
    }

    public int lay(int k, int i, int v) {
        if (!sheets.has(k)) {
            return BAD;
        }
        if (sheets.isNothing(k)) {
            return FAULT_BASE - Sheets.NULL_FAULT;
        }
        if (!sheets.hasCell(k, i)) {
            return FAULT_BASE - Sheets.INDEX_FAULT;
        }
        return sheets.put(k, i, v);
    }

    public int read(int k, int lane, int f) {
        if (!sheets.has(k) || !sheets.isLane(lane)) {
            return BAD;
        }
        if (sheets.isNothing(k)) {
            return FAULT_BASE - Sheets.NULL_FAULT;
        }
        if (sheets.lanes[k] != lane) {
            return FAULT_BASE - Sheets.CAST_FAULT;
        }
        int sum = 0;
        for (int d = 0; d < demands.size; d++) {
            if (!sheets.hasCell(k, f + d)) {
                return FAULT_BASE - Sheets.INDEX_FAULT;
            }
            int v = sheets.cells[k][f + d];
            if (!isWithin(v, 0, Traffic.MOST_MUCH)) {
                return -20 - d;
            }
            sum += v;
        }
        for (int d = 0; d < demands.size; d++) {
            demands.amount[d] = sheets.cells[k][f + d];
        }
        return sum;
    }

    public int count(int what) {
        switch (what) {
            case 0: return net.landCount;
            case 1: return net.lineCount;
            case 2: return demands.size;
            case 3: return breaks.size;
            case 4: return breaks.openOnes();
            case 5: return fleet.size;
            case 6: return plans.size;
            case 7: return net.theYear;
            case 8: return breaks.theHour;
            case 9: return breaks.litLines();
            case 10: return tape.length;
            case 11: return sheets.isNothing(0) ? NONE : sheets.sizes[0];
            default: return BAD;
        }
    }

    // ---- helpers of the calls above

    private static boolean isWithin(int v, int low, int high) {
        return v >= low && v <= high;
    }

    private boolean areTwoLands(int from, int to) {
        return net.hasLand(from) && net.hasLand(to) && from != to;
    }

    private int coinsOf(int house, int known, boolean whenDown) {
        int coins = 0;
        for (int k = 0; k < laws.rentCount; k++) {
            int[] row = laws.rents[k];
            int to = Math.min(row[Rules.TO], breaks.theHour);
            if (row[Rules.HOUSE] != house || row[Rules.FROM] >= to) {
                continue;
            }
            int down = breaks.downHours(row[Rules.LINE], row[Rules.FROM], to, known);
            int hours = whenDown ? down : to - row[Rules.FROM] - down;
            coins += hours * row[Rules.COINS];
        }
        return coins;
    }

    /** What holds for light, rooms and ships, and the rents. */
    private static final class Rules {
        static final int SEND = 0, NEED = 1, LOSS = 2, SPLICE = 3, AGE = 4, ROOM = 5, MEND = 6, SAIL = 7;
        static final int KINDS = 8;
        static final int HOUSE = 0, LINE = 1, FIBRES = 2, FROM = 3, TO = 4, COINS = 5;
        static final int RENT_PARTS = 6;
        static final int RENTS = 8;
        private static final int[] AT_FIRST = {100, 20, 1, 2, 1, 5, 4, 2};

        final int[] told = new int[KINDS];
        final int[][] rents = new int[RENTS][RENT_PARTS];
        int rentCount;

        Rules() {
            setAtFirst();
        }

        void setAtFirst() {
            System.arraycopy(AT_FIRST, 0, told, 0, KINDS);
            rentCount = 0;
        }

        void copyFrom(Rules other) {
            System.arraycopy(other.told, 0, told, 0, KINDS);
            for (int k = 0; k < other.rentCount; k++) {
                System.arraycopy(other.rents[k], 0, rents[k], 0, RENT_PARTS);
            }
            rentCount = other.rentCount;
        }
    }

    /** THE TAPE, and how rules are read from it. */
    private static final class Reader {
        private static final int SIZE = 240;
        private static final int END = 0, NAME = 1, NUMBER = 2, STOP = 3;
        private static final int NO_TOKEN = 1, MISPLACED = 2, OUT_OF_BOUNDS = 3, TOLD_ALREADY = 4, RENT_TOO_MANY = 5;
        private static final int MOST_FIGURES = 3;
        private static final int[] LOWEST = {0, 0, 0, 0, 0, 1, 1, 1};
        private static final int[] HIGHEST = {999, 999, 20, 20, 20, 50, 20, 20};

        private final int[] tape = new int[SIZE];
        private final Rules draft = new Rules();
        int length;
        int faultKind;
        private int faultPlace;
        private int at;
        private int kind;
        private int begin;
        private int value;
        private int toldBits;

        int takeBytes(long v) {
            if (length + 8 > SIZE) {
                return FULL;
            }
            for (int shift = 56; shift >= 0; shift -= 8) {
                tape[length] = (int) (v >>> shift) & 255;
                length++;
            }
            return length;
        }

        int keepFirst(int n) {
            if (!isWithin(n, 0, length)) {
                return BAD;
            }
            int had = length;
            length = n;
            return had;
        }

        /** How many lines were told; if there is a fault, all stays but THE TAPE. */
        int tell(Rules laws) {
            draft.setAtFirst();
            toldBits = 0;
            at = 0;
            faultKind = 0;
            int lines = 0;
            while (lines <= SIZE) {
                if (!nextToken() || kind == END || !readLine()) {
                    break;
                }
                lines++;
            }
            length = 0;
            if (faultKind != 0) {
                return FAULT_BASE - faultPlace;
            }
            laws.copyFrom(draft);
            return lines;
        }

        private boolean readLine() {
            if (kind == NAME && isWord("rent")) {
                return readRent();
            }
            int k = kind == NAME ? ruleNamed() : Rules.KINDS;
            if (k == Rules.KINDS) {
                return fail(MISPLACED);
            }
            if ((toldBits >> k & 1) == 1) {
                return fail(TOLD_ALREADY);
            }
            toldBits |= 1 << k;
            return readNumber(draft.told, k, LOWEST[k], HIGHEST[k]) && readStop();
        }

        private boolean readRent() {
            if (draft.rentCount >= Rules.RENTS) {
                return fail(RENT_TOO_MANY);
            }
            int[] row = draft.rents[draft.rentCount];
            boolean whole = readHouse(row)
                    && readNumber(row, Rules.LINE, 0, Net.LINES - 1)
                    && readNumber(row, Rules.FIBRES, 1, Net.MOST_FIBRES)
                    && readWord("from")
                    && readNumber(row, Rules.FROM, 0, LAST_HOUR - 1)
                    && readWord("to")
                    && readNumber(row, Rules.TO, row[Rules.FROM] + 1, LAST_HOUR)
                    && readWord("for")
                    && readNumber(row, Rules.COINS, 0, 99)
                    && readStop();
            if (whole) {
                draft.rentCount++;
            }
            return whole;
        }

        private boolean readHouse(int[] row) {
            if (!nextToken()) {
                return false;
            }
            int house = kind == NAME && at - begin == 1 ? tape[begin] - 'a' : HOUSES;
            if (house >= HOUSES) {
                return fail(MISPLACED);
            }
            row[Rules.HOUSE] = house;
            return true;
        }

        private boolean readWord(String word) {
            if (!nextToken()) {
                return false;
            }
            return kind == NAME && isWord(word) || fail(MISPLACED);
        }

        private boolean readStop() {
            if (!nextToken()) {
                return false;
            }
            return kind == STOP || fail(MISPLACED);
        }

        private boolean readNumber(int[] row, int place, int low, int high) {
            if (!nextToken()) {
                return false;
            }
            if (kind != NUMBER) {
                return fail(MISPLACED);
            }
            if (!isWithin(value, low, high)) {
                return fail(OUT_OF_BOUNDS);
            }
            row[place] = value;
            return true;
        }

        private boolean fail(int faulty) {
            faultKind = faulty;
            faultPlace = begin;
            return false;
        }

        private boolean nextToken() {
            while (at < length && tape[at] == ' ') {
                at++;
            }
            begin = at;
            if (at >= length) {
                kind = END;
                return true;
            }
            if (tape[at] == ';') {
                kind = STOP;
                at++;
                return true;
            }
            if (isWithin(tape[at], 'a', 'z')) {
                kind = NAME;
                while (at < length && isWithin(tape[at], 'a', 'z')) {
                    at++;
                }
                return true;
            }
            return nextNumber();
        }

        private boolean nextNumber() {
            kind = NUMBER;
            value = 0;
            while (at < length && isWithin(tape[at], '0', '9')) {
                // a run too long is refused below: its value may wrap
                value = value * 10 + tape[at] - '0';
                at++;
            }
            return isWithin(at - begin, 1, MOST_FIGURES) || fail(NO_TOKEN);
        }

        private boolean isWord(String word) {
            if (at - begin != word.length()) {
                return false;
            }
            for (int i = 0; i < word.length(); i++) {
                if (tape[begin + i] != word.charAt(i)) {
                    return false;
                }
            }
            return true;
        }

        private int ruleNamed() {
            for (int k = 0; k < Rules.KINDS; k++) {
                if (isWord(nameOf(k))) {
                    return k;
                }
            }
            return Rules.KINDS;
        }

        private static String nameOf(int k) {
            switch (k) {
                case Rules.SEND: return "send";
                case Rules.NEED: return "need";
                case Rules.LOSS: return "loss";
                case Rules.SPLICE: return "splice";
                case Rules.AGE: return "age";
                case Rules.ROOM: return "room";
                case Rules.MEND: return "mend";
                default: return "sail";
            }
        }
    }

    /** LANDS and LINES, THE YEAR and LIGHT. */
    private static final class Net {
        static final int LANDS = 8;
        static final int LINES = 12;
        static final int MOST_FIBRES = 8;
        static final int MOST_SPLICES = 20;
        static final int MOST_LENGTH = 198;

        private final Rules laws;
        int theYear;
        int landCount;
        final int[] x = new int[LANDS];
        final int[] y = new int[LANDS];
        int lineCount;
        final int[] from = new int[LINES];
        final int[] to = new int[LINES];
        final int[] wet = new int[LINES];
        final int[] fibres = new int[LINES];
        final int[] splices = new int[LINES];
        final int[] laid = new int[LINES];
        final int[] length = new int[LINES];

        Net(Rules laws) {
            this.laws = laws;
        }

        boolean hasLand(int i) {
            return i >= 0 && i < landCount;
        }

        boolean hasLine(int l) {
            return l >= 0 && l < lineCount;
        }

        int addLand(int atX, int atY) {
            if (landCount >= LANDS) {
                return FULL;
            }
            x[landCount] = atX;
            y[landCount] = atY;
            landCount++;
            return landCount - 1;
        }

        int addLine(int first, int other) {
            if (lineCount >= LINES) {
                return FULL;
            }
            from[lineCount] = first;
            to[lineCount] = other;
            length[lineCount] = Math.abs(x[first] - x[other]) + Math.abs(y[first] - y[other]);
            lineCount++;
            return lineCount - 1;
        }

        int lightIn(int l, int year) {
            int years = Math.max(0, year - laid[l]);
            return laws.told[Rules.SEND] - laws.told[Rules.LOSS] * length[l]
                    - laws.told[Rules.SPLICE] * splices[l] - laws.told[Rules.AGE] * years;
        }

        boolean isBright(int l) {
            return lightIn(l, theYear) >= laws.told[Rules.NEED];
        }

        int fullRoom(int l) {
            return laws.told[Rules.ROOM] * fibres[l];
        }

        /** The LAND at the other end of a LINE, or -1 if the LINE does not touch that LAND. */
        int otherEnd(int l, int land) {
            if (from[l] == land) {
                return to[l];
            }
            return to[l] == land ? from[l] : -1;
        }

        /** How many steps of a LINE go along x, ahead of those along y. */
        int stepsAlongX(int l) {
            return Math.abs(x[to[l]] - x[from[l]]);
        }

        int placeX(int l, int s) {
            int first = x[from[l]];
            int steps = Math.min(s, stepsAlongX(l));
            return x[to[l]] < first ? first - steps : first + steps;
        }

        int placeY(int l, int s) {
            int first = y[from[l]];
            int steps = Math.max(0, s - stepsAlongX(l));
            return y[to[l]] < first ? first - steps : first + steps;
        }
    }

    /** Numbered pairs of LANDS with an amount: DEMANDS, PLANS. */
    private static final class Spans {
        final int[] from;
        final int[] to;
        final int[] amount;
        int size;

        Spans(int most) {
            int length = Math.max(0, most);
            from = new int[length];
            to = new int[length];
            amount = new int[length];
        }

        boolean has(int i) {
            return i >= 0 && i < size;
        }

        int add(int first, int other, int much) {
            if (size >= from.length) {
                return FULL;
            }
            from[size] = first;
            to[size] = other;
            amount[size] = much;
            size++;
            return size - 1;
        }
    }

    /** BREAKS and THE HOUR, and so which LINES are CUT. */
    private static final class Breaks {
        static final int BREAKS = 8;
        static final int MOST_MISS = 20;
        static final int MOST_REACH = 99;
        static final int QUAKE_LAG = 2;
        private static final int LIT = 0, DIM = 1, CUT = 2;
        private static final int NO_SHIP = -1;
        private static final int NEVER = 1000000;

        private final Net net;
        int theHour;
        int size;
        final int[] line = new int[BREAKS];
        final int[] since = new int[BREAKS];
        final int[] said = new int[BREAKS];
        // ECHOES take SPOTS from both ends of a row only, so that SPOTS stay one row without gaps
        final int[] least = new int[BREAKS];
        final int[] greatest = new int[BREAKS];
        final int[] mended = new int[BREAKS];
        final int[] ship = new int[BREAKS];

        Breaks(Net net) {
            this.net = net;
        }

        boolean has(int b) {
            return b >= 0 && b < size;
        }

        int add(int l, int hour) {
            if (size >= BREAKS) {
                return FULL;
            }
            line[size] = l;
            since[size] = hour;
            said[size] = theHour;
            least[size] = 0;
            greatest[size] = net.length[l];
            mended[size] = NEVER;
            ship[size] = NO_SHIP;
            size++;
            return size - 1;
        }

        int narrow(int b, int end, int v, int m) {
            int middle = end == 0 ? v : net.length[line[b]] - v;
            int low = Math.max(least[b], middle - m);
            int high = Math.min(greatest[b], middle + m);
            if (low > high) {
                return STATE;
            }
            least[b] = low;
            greatest[b] = high;
            return high - low + 1;
        }

        boolean isInHands(int b) {
            return ship[b] != NO_SHIP;
        }

        boolean isOpen(int b) {
            return theHour < mended[b];
        }

        int openOnes() {
            int open = 0;
            for (int b = 0; b < size; b++) {
                open += isOpen(b) ? 1 : 0;
            }
            return open;
        }

        private boolean isCut(int l) {
            for (int b = 0; b < size; b++) {
                if (line[b] == l && isOpen(b)) {
                    return true;
                }
            }
            return false;
        }

        int stateOf(int l) {
            if (isCut(l)) {
                return CUT;
            }
            return net.isBright(l) ? LIT : DIM;
        }

        int litLines() {
            int lit = 0;
            for (int l = 0; l < net.lineCount; l++) {
                lit += stateOf(l) == LIT ? 1 : 0;
            }
            return lit;
        }

        /** ROOM of a LINE; if all are taken as whole, what it would be were none CUT. */
        int roomOf(int l, boolean allWhole) {
            boolean lit = net.isBright(l) && (allWhole || !isCut(l));
            return lit ? net.fullRoom(l) : 0;
        }

        /** HOW FAR the nearest of its SPOTS is. */
        int farFrom(int b, int x, int y) {
            int corner = net.stepsAlongX(line[b]);
            int far = NEVER;
            if (least[b] <= corner) {
                far = farFromRow(line[b], least[b], Math.min(greatest[b], corner), x, y);
            }
            if (greatest[b] > corner) {
                far = Math.min(far, farFromRow(line[b], Math.max(least[b], corner), greatest[b], x, y));
            }
            return far;
        }

        /** HOW FAR the nearest PLACE from s to t is, none of which is beyond a corner. */
        private int farFromRow(int l, int s, int t, int x, int y) {
            return gap(net.placeX(l, s), net.placeX(l, t), x) + gap(net.placeY(l, s), net.placeY(l, t), y);
        }

        private static int gap(int a, int b, int v) {
            return Math.max(0, Math.max(Math.min(a, b) - v, v - Math.max(a, b)));
        }

        /** One QUAKE can stand halfway between two SPOTS, so it reaches both if they are twice its reach apart. */
        boolean couldShare(int b, int c, int reach) {
            if (Math.abs(since[b] - since[c]) > QUAKE_LAG) {
                return false;
            }
            for (int s = least[b]; s <= greatest[b]; s++) {
                if (farFrom(c, net.placeX(line[b], s), net.placeY(line[b], s)) <= 2 * reach) {
                    return true;
                }
            }
            return false;
        }

        /** HOURS from one up to (but without) another in which a BREAK of a LINE, as known, was OPEN. */
        int downHours(int l, int from, int to, int known) {
            int down = 0;
            int at = from;
            for (int turn = 0; turn < size; turn++) {
                int b = nextDown(l, at, known);
                if (b < 0 || since[b] >= to || at >= to) {
                    break;
                }
                int until = Math.min(mended[b], to);
                down += until - Math.max(since[b], at);
                at = until;
            }
            return down;
        }

        /** Of those OPEN in an HOUR or later the one that began first. */
        private int nextDown(int l, int at, int known) {
            int first = -1;
            for (int b = 0; b < size; b++) {
                boolean counts = line[b] == l && said[b] <= known && mended[b] > at;
                if (counts && (first < 0 || since[b] < since[first])) {
                    first = b;
                }
            }
            return first;
        }
    }

    /** How DEMANDS go: LED and SWING, and what LINES join. */
    private static final class Traffic {
        static final int DEMANDS = 12;
        static final int MOST_MUCH = 99;
        static final int LAST_TURN = 60;
        static final int NO_LINE = -1;
        private static final int MOST_STEPS = Net.LANDS - 1;
        private static final int SHUT = 0;
        private static final int AWAY = 1 << 28;
        // a price is a sum in sixteenths and 1, so that of like sums the fewest LINES cost least
        private static final int SUM_UNIT = 16;

        private final Net net;
        private final Breaks breaks;
        private final Spans demands;
        private final int[] room = new int[Net.LINES];
        private final int[] roomLeft = new int[Net.LINES];
        private final int[] price = new int[Net.LINES];
        private final int[] far = new int[Net.LANDS];
        private final int[] heap = new int[Net.LANDS];
        private final int[][] ways = new int[DEMANDS][MOST_STEPS];
        private final int[] steps = new int[DEMANDS];
        private final int[][] loads = new int[LAST_TURN + 1][Net.LINES];
        int gone;
        int lostBits;
        int backFrom;
        int round;

        Traffic(Net net, Breaks breaks, Spans demands) {
            this.net = net;
            this.breaks = breaks;
            this.demands = demands;
        }

        /** What ROOM there is for all that is asked next. */
        void keepRooms(boolean allWhole) {
            for (int l = 0; l < net.lineCount; l++) {
                room[l] = breaks.roomOf(l, allWhole);
            }
        }

        int goesBy(int l) {
            keepRooms(false);
            lead(NO_LINE);
            return room[l] - roomLeft[l];
        }

        int ahead(int l) {
            keepRooms(false);
            int lost = lead(NO_LINE);
            return lead(l) - lost;
        }

        /** LED by the ROOM that was kept, one LINE having none: how much is LOST. */
        int lead(int without) {
            for (int l = 0; l < net.lineCount; l++) {
                roomLeft[l] = l == without ? 0 : room[l];
            }
            gone = 0;
            lostBits = 0;
            int lost = 0;
            for (int d = 0; d < demands.size; d++) {
                steps[d] = 0;
                if (demands.amount[d] == 0) {
                    continue;
                }
                leadOne(d);
                if (steps[d] == 0) {
                    lost += demands.amount[d];
                    lostBits |= 1 << d;
                } else {
                    gone += demands.amount[d];
                }
            }
            return lost;
        }

        private void leadOne(int d) {
            for (int l = 0; l < net.lineCount; l++) {
                price[l] = roomLeft[l] >= demands.amount[d] ? 1 : SHUT;
            }
            measureTo(demands.to[d]);
            follow(d);
            for (int i = 0; i < steps[d]; i++) {
                roomLeft[ways[d][i]] -= demands.amount[d];
            }
        }

        /** The LINE at a place of the WAY that was found last for a DEMAND. */
        int stepOf(int d, int i) {
            return i >= 0 && i < steps[d] ? ways[d][i] : NONE;
        }

        /** The least price from each LAND to one. */
        private void measureTo(int target) {
            Arrays.fill(far, AWAY);
            far[target] = 0;
            boolean better = true;
            for (int pass = 0; better && pass < Net.LANDS; pass++) {
                better = false;
                for (int l = 0; l < net.lineCount; l++) {
                    if (price[l] == SHUT) {
                        continue;
                    }
                    int a = net.from[l];
                    int b = net.to[l];
                    if (far[a] + price[l] < far[b]) {
                        far[b] = far[a] + price[l];
                        better = true;
                    } else if (far[b] + price[l] < far[a]) {
                        far[a] = far[b] + price[l];
                        better = true;
                    }
                }
            }
        }

        /** The WAY of a DEMAND: of those of the least price the least row of LINES. */
        private void follow(int d) {
            steps[d] = 0;
            int at = demands.from[d];
            if (far[at] >= AWAY) {
                return;
            }
            for (int i = 0; i < MOST_STEPS && at != demands.to[d]; i++) {
                int l = leastStep(at);
                if (l == NO_LINE) {
                    break;
                }
                ways[d][i] = l;
                steps[d] = i + 1;
                at = net.otherEnd(l, at);
            }
        }

        private int leastStep(int at) {
            for (int l = 0; l < net.lineCount; l++) {
                int next = price[l] == SHUT ? -1 : net.otherEnd(l, at);
                if (next >= 0 && far[next] + price[l] == far[at]) {
                    return l;
                }
            }
            return NO_LINE;
        }

        /** PARTS by two LINES and a ROOM, by the ROOM that was kept. */
        int heapsWithout(int l, int m, int r) {
            for (int i = 0; i < net.landCount; i++) {
                heap[i] = i;
            }
            int heaps = net.landCount;
            for (int k = 0; k < net.lineCount; k++) {
                boolean joins = k != l && k != m && room[k] >= r;
                if (joins && heap[net.from[k]] != heap[net.to[k]]) {
                    joinHeaps(heap[net.from[k]], heap[net.to[k]]);
                    heaps--;
                }
            }
            return heaps;
        }

        private void joinHeaps(int kept, int other) {
            for (int i = 0; i < net.landCount; i++) {
                if (heap[i] == other) {
                    heap[i] = kept;
                }
            }
        }

        /** SWING from turn 0 on until LOADS come back: whether they do. */
        boolean swingUntilBack() {
            backFrom = LAST_TURN + 1;
            round = 1;
            for (int turn = 0; turn <= LAST_TURN; turn++) {
                chooseAll(turn);
                for (int earlier = 0; earlier < turn; earlier++) {
                    if (areLike(earlier, turn)) {
                        backFrom = earlier;
                        round = turn - earlier;
                        return true;
                    }
                }
            }
            return false;
        }

        /** The first turn in which all is chosen as in turn t, as swingUntilBack has found. */
        int sameTurn(int t) {
            // the same LOADS can come of other choices: only a turn behind them is chosen alike
            if (t <= backFrom || round < 1) {
                return t;
            }
            return backFrom + 1 + (t - backFrom - 1) % round;
        }

        private boolean areLike(int turn, int other) {
            for (int l = 0; l < net.lineCount; l++) {
                if (loads[turn][l] != loads[other][l]) {
                    return false;
                }
            }
            return true;
        }

        /** All choose anew, by LOADS of the turn ahead, which are there. */
        void chooseAll(int turn) {
            if (turn < 0 || turn > LAST_TURN) {
                return;
            }
            for (int l = 0; l < net.lineCount; l++) {
                int ahead = turn == 0 ? 0 : loads[turn - 1][l];
                price[l] = room[l] > 0 ? (1 + ahead) * SUM_UNIT + 1 : SHUT;
                loads[turn][l] = 0;
            }
            for (int target = 0; target < net.landCount; target++) {
                chooseTo(target, turn);
            }
        }

        private void chooseTo(int target, int turn) {
            boolean measured = false;
            for (int d = 0; d < demands.size; d++) {
                if (demands.to[d] != target) {
                    continue;
                }
                steps[d] = 0;
                if (demands.amount[d] == 0) {
                    continue;
                }
                if (!measured) {
                    measureTo(target);
                    measured = true;
                }
                follow(d);
                for (int i = 0; i < steps[d]; i++) {
                    loads[turn][ways[d][i]] += demands.amount[d];
                }
            }
        }

        /** The greatest LOAD in a ROUND, as swingUntilBack has found it. */
        int greatestLoad() {
            int greatest = 0;
            for (int turn = backFrom; turn < backFrom + round && turn <= LAST_TURN; turn++) {
                for (int l = 0; l < net.lineCount; l++) {
                    greatest = Math.max(greatest, loads[turn][l]);
                }
            }
            return greatest;
        }

        /** LINES (bits) whose LOAD is above ROOM in a turn of a ROUND. */
        int overfull() {
            int bits = 0;
            for (int turn = backFrom; turn < backFrom + round && turn <= LAST_TURN; turn++) {
                for (int l = 0; l < net.lineCount; l++) {
                    bits |= loads[turn][l] > room[l] ? 1 << l : 0;
                }
            }
            return bits;
        }
    }

    /** SHIPS, and how each mends. */
    private static final class Fleet {
        static final int SHIPS = 3;
        static final int MOST_REEL = 99;
        private static final int LEAST_REEL = 3;
        private static final int DRY_BIT = 1, WET_BIT = 2;

        private final Net net;
        private final Breaks breaks;
        private final Rules laws;
        int size;
        final int[] x = new int[SHIPS];
        final int[] y = new int[SHIPS];
        final int[] reel = new int[SHIPS];
        final int[] leave = new int[SHIPS];
        final int[] freeFrom = new int[SHIPS];

        Fleet(Net net, Breaks breaks, Rules laws) {
            this.net = net;
            this.breaks = breaks;
            this.laws = laws;
        }

        boolean has(int s) {
            return s >= 0 && s < size;
        }

        int add(int land, int itsReel, int itsLeave) {
            if (size >= SHIPS) {
                return FULL;
            }
            x[size] = net.x[land];
            y[size] = net.y[land];
            reel[size] = itsReel;
            leave[size] = itsLeave;
            freeFrom[size] = 0;
            size++;
            return size - 1;
        }

        boolean hasLeave(int s, int b) {
            int bit = net.wet[breaks.line[b]] == 1 ? WET_BIT : DRY_BIT;
            return (leave[s] & bit) != 0;
        }

        int reelFor(int b) {
            return LEAST_REEL + breaks.greatest[b] - breaks.least[b];
        }

        int placeX(int b) {
            return net.placeX(breaks.line[b], breaks.least[b]);
        }

        int placeY(int b) {
            return net.placeY(breaks.line[b], breaks.least[b]);
        }

        int hoursTo(int b, int fromX, int fromY) {
            int far = Math.abs(placeX(b) - fromX) + Math.abs(placeY(b) - fromY);
            int sail = Math.max(1, laws.told[Rules.SAIL]);
            return (far + sail - 1) / sail + laws.told[Rules.MEND];
        }

        boolean mayMend(int s, int b) {
            return hasLeave(s, b) && reel[s] >= reelFor(b);
        }

        int beginsIn(int s) {
            return Math.max(breaks.theHour, freeFrom[s]);
        }

        int takeInHands(int s, int b) {
            int done = beginsIn(s) + hoursTo(b, x[s], y[s]);
            reel[s] -= reelFor(b);
            x[s] = placeX(b);
            y[s] = placeY(b);
            freeFrom[s] = done;
            breaks.mended[b] = done;
            breaks.ship[b] = s;
            return done;
        }
    }

    /** ORDER: jobs are the BREAKS that are OPEN and in no ship's hands. */
    private static final class Mending {
        private static final int MOST_JOBS = 7;
        private static final int SETS = 1 << MOST_JOBS;
        private static final int MOST_PARTINGS = 2187;
        private static final int CANNOT = 2147483647;

        private final Breaks breaks;
        private final Fleet fleet;
        private final Traffic traffic;
        private int jobs;
        private final int[] job = new int[MOST_JOBS];
        private final int[] weight = new int[MOST_JOBS];
        private final int[][] legs = new int[MOST_JOBS][MOST_JOBS];
        private final int[] weightOfSet = new int[SETS];
        private final int[][] costBehind = new int[MOST_JOBS][SETS];
        private final int[][] costOfShip = new int[Fleet.SHIPS][SETS];
        private final int[] hand = new int[MOST_JOBS];
        private final int[] inHands = new int[Fleet.SHIPS];
        private final int[] bestHand = new int[MOST_JOBS];
        int bestCost;
        private final int[] plainX = new int[Fleet.SHIPS];
        private final int[] plainY = new int[Fleet.SHIPS];
        private final int[] plainReel = new int[Fleet.SHIPS];
        private final int[] plainFree = new int[Fleet.SHIPS];
        private int plainRest;
        int plainCost;

        Mending(Breaks breaks, Fleet fleet, Traffic traffic) {
            this.breaks = breaks;
            this.fleet = fleet;
            this.traffic = traffic;
        }

        /** Finds the jobs: false if they are too many. */
        boolean gather() {
            jobs = 0;
            for (int b = 0; b < breaks.size; b++) {
                if (!breaks.isOpen(b) || breaks.isInHands(b)) {
                    continue;
                }
                if (jobs >= MOST_JOBS) {
                    return false;
                }
                job[jobs] = b;
                jobs++;
            }
            return true;
        }

        int jobBits() {
            int bits = 0;
            for (int j = 0; j < jobs; j++) {
                bits |= 1 << job[j];
            }
            return bits;
        }

        void weigh() {
            traffic.keepRooms(true);
            int lost = traffic.lead(Traffic.NO_LINE);
            for (int j = 0; j < jobs; j++) {
                weight[j] = traffic.lead(breaks.line[job[j]]) - lost;
            }
        }

        /** What each set of jobs costs, from each job on and for each ship. */
        void measure() {
            for (int j = 0; j < jobs; j++) {
                for (int k = 0; k < jobs; k++) {
                    legs[j][k] = fleet.hoursTo(job[k], fleet.placeX(job[j]), fleet.placeY(job[j]));
                }
            }
            for (int set = 0; set < 1 << jobs; set++) {
                weightOfSet[set] = weightOf(set);
                for (int j = 0; j < jobs; j++) {
                    costBehind[j][set] = costFrom(j, set);
                }
            }
            for (int s = 0; s < fleet.size; s++) {
                for (int set = 0; set < 1 << jobs; set++) {
                    costOfShip[s][set] = costFor(s, set);
                }
            }
        }

        private int weightOf(int set) {
            int sum = 0;
            for (int j = 0; j < jobs; j++) {
                sum += (set >> j & 1) * weight[j];
            }
            return sum;
        }

        /** All jobs of a set wait while the first of them is gone to and done: the least of all that. */
        private int costFrom(int j, int set) {
            int least = set == 0 ? 0 : CANNOT;
            for (int k = 0; k < jobs; k++) {
                if ((set >> k & 1) == 1) {
                    least = Math.min(least, weightOfSet[set] * legs[j][k] + costBehind[k][set ^ 1 << k]);
                }
            }
            return least;
        }

        private int costFor(int s, int set) {
            int least = set == 0 ? 0 : CANNOT;
            int reel = 0;
            int wait = fleet.beginsIn(s) - breaks.theHour;
            for (int k = 0; k < jobs; k++) {
                if ((set >> k & 1) == 0) {
                    continue;
                }
                reel += fleet.reelFor(job[k]);
                if (!fleet.hasLeave(s, job[k]) || reel > fleet.reel[s]) {
                    return CANNOT;
                }
                int hours = wait + fleet.hoursTo(job[k], fleet.x[s], fleet.y[s]);
                least = Math.min(least, weightOfSet[set] * hours + costBehind[k][set ^ 1 << k]);
            }
            return least;
        }

        /** Goes through all partings, the least rows of ships first: false if none can be. */
        boolean findBest() {
            bestCost = jobs == 0 ? 0 : CANNOT;
            if (jobs == 0 || fleet.size == 0) {
                return jobs == 0;
            }
            Arrays.fill(hand, 0);
            Arrays.fill(inHands, 0);
            inHands[0] = (1 << jobs) - 1;
            boolean more = true;
            for (int turn = 0; more && turn < MOST_PARTINGS; turn++) {
                int cost = costOfParting();
                if (cost < bestCost) {
                    bestCost = cost;
                    System.arraycopy(hand, 0, bestHand, 0, jobs);
                }
                more = nextParting();
            }
            return bestCost != CANNOT;
        }

        private int costOfParting() {
            int sum = 0;
            for (int s = 0; s < fleet.size; s++) {
                int cost = costOfShip[s][inHands[s]];
                if (cost == CANNOT) {
                    return CANNOT;
                }
                sum += cost;
            }
            return sum;
        }

        private boolean nextParting() {
            for (int j = jobs - 1; j >= 0; j--) {
                int s = hand[j];
                int next = s + 1 < fleet.size ? s + 1 : 0;
                inHands[s] ^= 1 << j;
                inHands[next] ^= 1 << j;
                hand[j] = next;
                if (next > s) {
                    return true;
                }
            }
            return false;
        }

        int bestShipOf(int b) {
            for (int j = 0; j < jobs; j++) {
                if (job[j] == b) {
                    return bestHand[j];
                }
            }
            return NONE;
        }

        /** ORDER by the rule of the first that is free. */
        void goPlainly() {
            for (int s = 0; s < fleet.size; s++) {
                plainX[s] = fleet.x[s];
                plainY[s] = fleet.y[s];
                plainReel[s] = fleet.reel[s];
                plainFree[s] = fleet.beginsIn(s);
            }
            plainCost = 0;
            plainRest = (1 << jobs) - 1;
            int still = 0;
            // each turn either does a job or stills a ship
            for (int turn = 0; turn < MOST_JOBS + Fleet.SHIPS; turn++) {
                int s = firstFree(still);
                if (s < 0) {
                    break;
                }
                int j = soonestFor(s);
                if (j < 0) {
                    still |= 1 << s;
                } else {
                    doPlainly(s, j);
                }
            }
        }

        private int firstFree(int still) {
            int first = -1;
            for (int s = 0; s < fleet.size; s++) {
                boolean goes = (still >> s & 1) == 0;
                if (goes && (first < 0 || plainFree[s] < plainFree[first])) {
                    first = s;
                }
            }
            return first;
        }

        private int soonestFor(int s) {
            int soonest = -1;
            int least = CANNOT;
            for (int j = 0; j < jobs; j++) {
                boolean rests = (plainRest >> j & 1) == 1;
                boolean may = fleet.hasLeave(s, job[j]) && fleet.reelFor(job[j]) <= plainReel[s];
                int hours = fleet.hoursTo(job[j], plainX[s], plainY[s]);
                if (rests && may && hours < least) {
                    least = hours;
                    soonest = j;
                }
            }
            return soonest;
        }

        private void doPlainly(int s, int j) {
            plainFree[s] += fleet.hoursTo(job[j], plainX[s], plainY[s]);
            plainCost += weight[j] * (plainFree[s] - breaks.theHour);
            plainReel[s] -= fleet.reelFor(job[j]);
            plainX[s] = fleet.placeX(job[j]);
            plainY[s] = fleet.placeY(job[j]);
            plainRest ^= 1 << j;
        }

        int plainLeft() {
            return Integer.bitCount(plainRest);
        }
    }

    /** SAFE: the least PLANS that keep LANDS joined whichever two LINES fall. */
    private static final class Safety {
        static final int PLANS = 8;
        static final int MOST_COINS = 999;
        // LANDS stay joined whichever two fall just if three WAYS that share no LINE join them
        private static final int WAYS = 3;
        private static final int MOST_TIES = Net.LINES + PLANS;
        private static final int FREE = 0, FORTH = 1, BACK = 2;

        private final Net net;
        private final Spans plans;
        private int ties;
        private final int[] from = new int[MOST_TIES];
        private final int[] to = new int[MOST_TIES];
        private final int[] use = new int[MOST_TIES];
        private final int[] cameBy = new int[Net.LANDS];
        int bestCoins;
        int bestBits;

        Safety(Net net, Spans plans) {
            this.net = net;
            this.plans = plans;
        }

        /** False if no set of PLANS is SAFE for these LANDS. */
        boolean findBest(int lands) {
            int all = (1 << plans.size) - 1;
            if (!isSafe(all, lands)) {
                return false;
            }
            bestBits = all;
            bestCoins = coinsOf(all);
            for (int set = 0; set < all; set++) {
                int coins = coinsOf(set);
                if (isBetter(set, coins) && isSafe(set, lands)) {
                    bestBits = set;
                    bestCoins = coins;
                }
            }
            return true;
        }

        /** Sets come by their bits, so of those that are like in all else the first stays. */
        private boolean isBetter(int set, int coins) {
            if (coins != bestCoins) {
                return coins < bestCoins;
            }
            return Integer.bitCount(set) < Integer.bitCount(bestBits);
        }

        private int coinsOf(int set) {
            int sum = 0;
            for (int p = 0; p < plans.size; p++) {
                sum += (set >> p & 1) * plans.amount[p];
            }
            return sum;
        }

        private boolean isSafe(int set, int lands) {
            gatherTies(set);
            int root = Integer.numberOfTrailingZeros(lands);
            for (int land = root + 1; land < net.landCount; land++) {
                if ((lands >> land & 1) == 1 && !areJoinedWell(root, land)) {
                    return false;
                }
            }
            return true;
        }

        private void gatherTies(int set) {
            ties = 0;
            for (int l = 0; l < net.lineCount; l++) {
                addTie(net.from[l], net.to[l]);
            }
            for (int p = 0; p < plans.size; p++) {
                if ((set >> p & 1) == 1) {
                    addTie(plans.from[p], plans.to[p]);
                }
            }
        }

        private void addTie(int first, int other) {
            if (ties < MOST_TIES) {
                from[ties] = first;
                to[ties] = other;
                ties++;
            }
        }

        private boolean areJoinedWell(int first, int other) {
            Arrays.fill(use, FREE);
            for (int k = 0; k < WAYS; k++) {
                if (!spread(first, other)) {
                    return false;
                }
                giveBack(first, other);
            }
            return true;
        }

        /** Looks for one WAY more, which may turn back ties of those that are there. */
        private boolean spread(int first, int other) {
            int reached = 1 << first;
            boolean more = true;
            for (int pass = 0; more && pass < Net.LANDS; pass++) {
                more = false;
                for (int k = 0; k < ties; k++) {
                    boolean a = (reached >> from[k] & 1) == 1;
                    boolean b = (reached >> to[k] & 1) == 1;
                    if (a && !b && use[k] != FORTH) {
                        cameBy[to[k]] = k;
                        reached |= 1 << to[k];
                        more = true;
                    } else if (b && !a && use[k] != BACK) {
                        cameBy[from[k]] = k;
                        reached |= 1 << from[k];
                        more = true;
                    }
                }
            }
            return (reached >> other & 1) == 1;
        }

        /** Notes the WAY found, from its end back to its beginning. */
        private void giveBack(int first, int other) {
            int at = other;
            for (int i = 0; i < Net.LANDS && at != first; i++) {
                int k = cameBy[at];
                boolean forth = to[k] == at;
                if (use[k] == FREE) {
                    use[k] = forth ? FORTH : BACK;
                } else {
                    use[k] = FREE;
                }
                at = forth ? from[k] : to[k];
            }
        }
    }

    /** SHEETS: rows of CELLS, each of a lane. */
    private static final class Sheets {
        static final int MOST_CELLS = 40;
        static final int NULL_FAULT = 1, INDEX_FAULT = 2, CAST_FAULT = 3, SIZE_FAULT = 4;
        private static final int SHEETS = 4;
        private static final int NOTHING = -1;
        private static final int BYTES = 0, SHORTS = 1, INTS = 2;

        final int[] lanes = new int[SHEETS];
        final int[] sizes = new int[SHEETS];
        final int[][] cells = new int[SHEETS][MOST_CELLS];

        Sheets() {
            Arrays.fill(lanes, NOTHING);
        }

        boolean has(int k) {
            return k >= 0 && k < SHEETS;
        }

        boolean isLane(int lane) {
            return lane >= BYTES && lane <= INTS;
        }

        boolean isNothing(int k) {
            return lanes[k] == NOTHING;
        }

        boolean hasCell(int k, int i) {
            return i >= 0 && i < sizes[k];
        }

        int begin(int k, int lane, int n) {
            lanes[k] = lane;
            sizes[k] = n;
            Arrays.fill(cells[k], 0);
            return 1;
        }

        int put(int k, int i, int v) {
            if (lanes[k] == BYTES) {
                cells[k][i] = (byte) v;
            } else if (lanes[k] == SHORTS) {
                cells[k][i] = (short) v;
            } else {
                cells[k][i] = v;
            }
            return 1;
        }
    }
}
