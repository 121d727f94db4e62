import java.util.ArrayList;
import java.util.Arrays;
import java.util.HashSet;
import java.util.List;
import java.util.Set;
import java.util.TreeSet;

/**
 * The document once more, by trying everything: all WAYS, all orders, all pairs that fall.
 * It shares no code with LandLines, so that what both get wrong is what the document leaves open.
 */
final class Model {
    static final int BAD = -1, STATE = -2, FULL = -3, NONE = -4, SPENT = -6;

    record Land(int x, int y) {}

    static final class Line {
        int from, to, wet, fibres, splices, year;
    }

    static final class Tie {
        int from, to, amount;
    }

    static final class Break {
        int line, hour, said, mended = -1, ship = -1;
        TreeSet<Integer> spots = new TreeSet<>();
    }

    static final class Ship {
        int x, y, reel, leave, free;

        Ship copy() {
            Ship s = new Ship();
            s.x = x;
            s.y = y;
            s.reel = reel;
            s.leave = leave;
            s.free = free;
            return s;
        }
    }

    static final class Sheet {
        int lane;
        long[] cells;
    }

    static final String[] NAMES = {"send", "need", "loss", "splice", "age", "room", "mend", "sail"};
    static final int[] LOW = {0, 0, 0, 0, 0, 1, 1, 1};
    static final int[] HIGH = {999, 999, 20, 20, 20, 50, 20, 20};
    static final int[] FIRST = {100, 20, 1, 2, 1, 5, 4, 2};

    final List<Land> lands = new ArrayList<>();
    final List<Line> lines = new ArrayList<>();
    final List<Tie> demands = new ArrayList<>();
    final List<Tie> plans = new ArrayList<>();
    final List<Break> breaks = new ArrayList<>();
    final List<Ship> ships = new ArrayList<>();
    final Sheet[] sheets = new Sheet[4];
    int[] told = FIRST.clone();
    List<int[]> rents = new ArrayList<>();
    int theYear, theHour, faultOf;
    String tape = "";

    static boolean in(int v, int low, int high) {
        return low <= v && v <= high;
    }

    boolean pair(int a, int b) {
        return in(a, 0, lands.size() - 1) && in(b, 0, lands.size() - 1) && a != b;
    }

    boolean isLine(int l) {
        return in(l, 0, lines.size() - 1);
    }

    int far(int x, int y, int[] p) {
        return Math.abs(x - p[0]) + Math.abs(y - p[1]);
    }

    int length(Line l) {
        Land b = lands.get(l.to);
        return far(lands.get(l.from).x, lands.get(l.from).y, new int[] {b.x, b.y});
    }

    int[] place(Line l, int s) {
        Land a = lands.get(l.from);
        Land b = lands.get(l.to);
        int x = a.x;
        int y = a.y;
        for (int i = 0; i < s; i++) {
            if (x != b.x) {
                x += Integer.signum(b.x - x);
            } else {
                y += Integer.signum(b.y - y);
            }
        }
        return new int[] {x, y};
    }

    int lightIn(Line l, int year) {
        return told[0] - told[2] * length(l) - told[3] * l.splices - told[4] * (year > l.year ? year - l.year : 0);
    }

    boolean openIn(Break b, int hour) {
        return b.hour <= hour && (b.mended < 0 || hour < b.mended);
    }

    int state(int l) {
        for (Break b : breaks) {
            if (b.line == l && openIn(b, theHour)) {
                return 2;
            }
        }
        return lightIn(lines.get(l), theYear) < told[1] ? 1 : 0;
    }

    int[] rooms(boolean whole) {
        int[] rooms = new int[lines.size()];
        for (int l = 0; l < rooms.length; l++) {
            boolean lit = whole ? lightIn(lines.get(l), theYear) >= told[1] : state(l) == 0;
            rooms[l] = lit ? told[5] * lines.get(l).fibres : 0;
        }
        return rooms;
    }

    /** Every WAY between two LANDS that goes through no LAND twice. */
    List<List<Integer>> ways(int from, int to, boolean[] open) {
        List<List<Integer>> all = new ArrayList<>();
        extend(from, to, 1 << from, new ArrayList<>(), all, open);
        return all;
    }

    void extend(int at, int to, int seen, List<Integer> row, List<List<Integer>> all, boolean[] open) {
        if (at == to) {
            all.add(new ArrayList<>(row));
            return;
        }
        for (int l = 0; l < lines.size(); l++) {
            Line e = lines.get(l);
            int next = e.from == at ? e.to : e.to == at ? e.from : -1;
            if (!open[l] || next < 0 || (seen >> next & 1) == 1) {
                continue;
            }
            row.add(l);
            extend(next, to, seen | 1 << next, row, all, open);
            row.remove(row.size() - 1);
        }
    }

    /** Least sum of prices, then fewest LINES, then least row. */
    List<Integer> best(List<List<Integer>> all, int[] price) {
        List<Integer> best = null;
        for (List<Integer> row : all) {
            if (best == null || before(row, best, price)) {
                best = row;
            }
        }
        return best;
    }

    boolean before(List<Integer> a, List<Integer> b, int[] price) {
        int sumA = a.stream().mapToInt(l -> price[l]).sum();
        int sumB = b.stream().mapToInt(l -> price[l]).sum();
        if (sumA != sumB) {
            return sumA < sumB;
        }
        if (a.size() != b.size()) {
            return a.size() < b.size();
        }
        for (int i = 0; i < a.size(); i++) {
            if (!a.get(i).equals(b.get(i))) {
                return a.get(i) < b.get(i);
            }
        }
        return false;
    }

    static final class Led {
        List<List<Integer>> rows = new ArrayList<>();
        int gone, lost, bits;
        int[] by;
    }

    Led lead(int[] rooms) {
        int[] left = rooms.clone();
        Led led = new Led();
        led.by = new int[rooms.length];
        for (int d = 0; d < demands.size(); d++) {
            Tie t = demands.get(d);
            led.rows.add(null);
            if (t.amount == 0) {
                continue;
            }
            boolean[] open = new boolean[left.length];
            for (int l = 0; l < left.length; l++) {
                open[l] = left[l] >= t.amount;
            }
            List<Integer> row = best(ways(t.from, t.to, open), new int[left.length]);
            if (row == null) {
                led.lost += t.amount;
                led.bits |= 1 << d;
                continue;
            }
            led.gone += t.amount;
            led.rows.set(d, row);
            for (int l : row) {
                left[l] -= t.amount;
                led.by[l] += t.amount;
            }
        }
        return led;
    }

    int ahead(int l, boolean whole) {
        int[] rooms = rooms(whole);
        int lost = lead(rooms).lost;
        rooms[l] = 0;
        return lead(rooms).lost - lost;
    }

    int land(int x, int y) {
        if (!in(x, 0, 99) || !in(y, 0, 99)) {
            return BAD;
        }
        if (lands.size() == 8) {
            return FULL;
        }
        lands.add(new Land(x, y));
        return lands.size() - 1;
    }

    int line(int from, int to, int wet, int fibres, int splices, int year) {
        if (!pair(from, to) || !in(wet, 0, 1) || !in(fibres, 1, 8) || !in(splices, 0, 20) || !in(year, 0, 99)) {
            return BAD;
        }
        if (lines.size() == 12) {
            return FULL;
        }
        Line l = new Line();
        l.from = from;
        l.to = to;
        l.wet = wet;
        l.fibres = fibres;
        l.splices = splices;
        l.year = year;
        lines.add(l);
        return lines.size() - 1;
    }

    int lineOf(int l, int what) {
        if (!isLine(l) || !in(what, 0, 10)) {
            return BAD;
        }
        Line e = lines.get(l);
        int[] plain = {e.from, e.to, e.wet, e.fibres, e.splices, e.year, length(e), state(l)};
        if (what < 8) {
            return plain[what];
        }
        return what == 8 ? rooms(false)[l] : what == 9 ? lead(rooms(false)).by[l] : ahead(l, false);
    }

    int light(int l) {
        return isLine(l) ? lightIn(lines.get(l), theYear) : -10000;
    }

    int until(int l) {
        if (!isLine(l)) {
            return BAD;
        }
        for (int v = 0; v < 100; v++) {
            if (lightIn(lines.get(l), v) < told[1]) {
                return v;
            }
        }
        return NONE;
    }

    int change(int l, int v, int f) {
        if (!isLine(l) || !in(v, 0, 20) || !in(f, 1, 8)) {
            return BAD;
        }
        int had = lines.get(l).splices;
        lines.get(l).splices = v;
        lines.get(l).fibres = f;
        return had;
    }

    int year(int v) {
        if (!in(v, theYear, 99)) {
            return BAD;
        }
        int was = theYear;
        theYear = v;
        return was;
    }

    int hour(int v) {
        if (!in(v, theHour, 999)) {
            return BAD;
        }
        int was = theHour;
        theHour = v;
        return was;
    }

    int feed(long v) {
        if (tape.length() + 8 > 240) {
            return FULL;
        }
        for (int k = 7; k >= 0; k--) {
            tape += (char) (v >> 8 * k & 255);
        }
        return tape.length();
    }

    int end(int n) {
        if (n < 0 || n > tape.length()) {
            return BAD;
        }
        int had = tape.length();
        tape = tape.substring(0, n);
        return had;
    }

    static final class Fault extends RuntimeException {
        private static final long serialVersionUID = 1;
        final int kind, place;

        Fault(int kind, int place) {
            this.kind = kind;
            this.place = place;
        }
    }

    int at, begin;

    String token() {
        while (at < tape.length() && tape.charAt(at) == ' ') {
            at++;
        }
        begin = at;
        if (at == tape.length()) {
            return "";
        }
        String rest = tape.substring(at);
        String found = null;
        for (String form : new String[] {"[a-z]+", "[0-9]+", ";"}) {
            java.util.regex.Matcher m = java.util.regex.Pattern.compile(form).matcher(rest);
            if (m.lookingAt()) {
                found = m.group();
            }
        }
        if (found == null || found.matches("[0-9]{4,}")) {
            throw new Fault(1, begin);
        }
        at += found.length();
        return found;
    }

    void must(boolean holds, int kind) {
        if (!holds) {
            throw new Fault(kind, begin);
        }
    }

    int number(int low, int high) {
        String t = token();
        must(t.matches("[0-9]+"), 2);
        must(in(Integer.parseInt(t), low, high), 3);
        return Integer.parseInt(t);
    }

    void word(String w) {
        must(token().equals(w), 2);
    }

    int parse(int[] values, List<int[]> contracts) {
        Set<String> seen = new HashSet<>();
        int count = 0;
        for (String t = token(); !t.isEmpty(); t = token()) {
            int k = Arrays.asList(NAMES).indexOf(t);
            must(k >= 0 || t.equals("rent"), 2);
            if (k >= 0) {
                must(seen.add(t), 4);
                values[k] = number(LOW[k], HIGH[k]);
            } else {
                must(contracts.size() < 8, 5);
                String house = token();
                must(house.matches("[a-f]"), 2);
                int[] row = new int[6];
                row[0] = house.charAt(0) - 'a';
                row[1] = number(0, 11);
                row[2] = number(1, 8);
                word("from");
                row[3] = number(0, 998);
                word("to");
                row[4] = number(row[3] + 1, 999);
                word("for");
                row[5] = number(0, 99);
                contracts.add(row);
            }
            word(";");
            count++;
        }
        return count;
    }

    int rules() {
        int[] values = FIRST.clone();
        List<int[]> contracts = new ArrayList<>();
        at = 0;
        try {
            int count = parse(values, contracts);
            told = values;
            rents = contracts;
            faultOf = 0;
            return count;
        } catch (Fault f) {
            faultOf = f.kind;
            return -10 - f.place;
        } finally {
            tape = "";
        }
    }

    int fault() {
        return faultOf;
    }

    int rule(int what) {
        return what == 8 ? rents.size() : in(what, 0, 7) ? told[what] : BAD;
    }

    int rent(int k, int what) {
        return in(k, 0, rents.size() - 1) && in(what, 0, 5) ? rents.get(k)[what] : BAD;
    }

    int add(List<Tie> list, int most, int from, int to, int amount) {
        if (list.size() == most) {
            return FULL;
        }
        Tie t = new Tie();
        t.from = from;
        t.to = to;
        t.amount = amount;
        list.add(t);
        return list.size() - 1;
    }

    int demand(int from, int to, int much) {
        return !pair(from, to) || !in(much, 1, 99) ? BAD : add(demands, 12, from, to, much);
    }

    int much(int d, int v) {
        if (!in(d, 0, demands.size() - 1) || !in(v, 0, 99)) {
            return BAD;
        }
        int was = demands.get(d).amount;
        demands.get(d).amount = v;
        return was;
    }

    int led(int what) {
        Led led = lead(rooms(false));
        return what == 0 ? led.gone : what == 1 ? led.lost : what == 2 ? led.bits : BAD;
    }

    int way(int d, int i) {
        if (!in(d, 0, demands.size() - 1) || i < 0) {
            return BAD;
        }
        List<Integer> row = lead(rooms(false)).rows.get(d);
        return row == null || i >= row.size() ? NONE : row.get(i);
    }

    int parts(int l, int m, int r) {
        if (!isLine(l) || !isLine(m) || !in(r, 0, 400)) {
            return BAD;
        }
        int[] rooms = rooms(false);
        int seen = 0;
        int heaps = 0;
        for (int i = 0; i < lands.size(); i++) {
            if ((seen >> i & 1) == 1) {
                continue;
            }
            heaps++;
            List<int[]> ends = new ArrayList<>();
            for (int k = 0; k < lines.size(); k++) {
                if (k != l && k != m && rooms[k] >= r) {
                    ends.add(new int[] {lines.get(k).from, lines.get(k).to});
                }
            }
            seen |= reach(1 << i, ends);
        }
        return heaps;
    }

    int reach(int bits, List<int[]> ends) {
        for (int i = 0; i < 8; i++) {
            for (int[] e : ends) {
                if ((bits >> e[0] & 1) + (bits >> e[1] & 1) > 0) {
                    bits |= 1 << e[0] | 1 << e[1];
                }
            }
        }
        return bits;
    }

    int worst(int r, int what) {
        if (!in(r, 0, 400) || !in(what, 0, 1)) {
            return BAD;
        }
        int most = -1;
        int code = NONE;
        for (int l = 0; l < lines.size(); l++) {
            for (int m = l + 1; m < lines.size(); m++) {
                if (parts(l, m, r) > most) {
                    most = parts(l, m, r);
                    code = 100 * l + m;
                }
            }
        }
        return code == NONE ? NONE : what == 0 ? code : most;
    }

    final List<List<List<Integer>>> turns = new ArrayList<>();
    final List<int[]> loads = new ArrayList<>();

    void play() {
        turns.clear();
        loads.clear();
        int[] rooms = rooms(false);
        boolean[] open = new boolean[rooms.length];
        for (int l = 0; l < rooms.length; l++) {
            open[l] = rooms[l] > 0;
        }
        List<List<List<Integer>>> choices = new ArrayList<>();
        for (Tie t : demands) {
            choices.add(ways(t.from, t.to, open));
        }
        int[] price = new int[rooms.length];
        Arrays.fill(price, 1);
        for (int turn = 0; turn <= 60; turn++) {
            int[] load = new int[rooms.length];
            List<List<Integer>> rows = new ArrayList<>();
            for (int d = 0; d < demands.size(); d++) {
                List<Integer> row = demands.get(d).amount == 0 ? null : best(choices.get(d), price);
                rows.add(row);
                if (row != null) {
                    for (int l : row) {
                        load[l] += demands.get(d).amount;
                    }
                }
            }
            turns.add(rows);
            loads.add(load);
            for (int l = 0; l < price.length; l++) {
                price[l] = 1 + load[l];
            }
        }
    }

    int swing(int t, int d, int i) {
        if (!in(t, 0, 60) || !in(d, 0, demands.size() - 1) || i < 0) {
            return BAD;
        }
        play();
        List<Integer> row = turns.get(t).get(d);
        return row == null || i >= row.size() ? NONE : row.get(i);
    }

    int swings(int what) {
        if (!in(what, 0, 3)) {
            return BAD;
        }
        play();
        for (int t = 0; t <= 60; t++) {
            for (int u = t + 1; u <= 60; u++) {
                if (Arrays.equals(loads.get(t), loads.get(u))) {
                    return swings(what, t, u);
                }
            }
        }
        return SPENT;
    }

    int swings(int what, int t, int u) {
        int most = 0;
        int bits = 0;
        int[] rooms = rooms(false);
        for (int k = t; k < u; k++) {
            for (int l = 0; l < rooms.length; l++) {
                most = Math.max(most, loads.get(k)[l]);
                bits |= loads.get(k)[l] > rooms[l] ? 1 << l : 0;
            }
        }
        return new int[] {t, u - t, most, bits}[what];
    }

    int cut(int l, int hour) {
        if (!isLine(l) || !in(hour, 0, theHour)) {
            return BAD;
        }
        if (breaks.size() == 8) {
            return FULL;
        }
        Break b = new Break();
        b.line = l;
        b.hour = hour;
        b.said = theHour;
        for (int s = 0; s <= length(lines.get(l)); s++) {
            b.spots.add(s);
        }
        breaks.add(b);
        return breaks.size() - 1;
    }

    boolean isBreak(int b) {
        return in(b, 0, breaks.size() - 1);
    }

    int echo(int b, int end, int v, int m) {
        if (!isBreak(b) || !in(end, 0, 1) || !in(v, 0, 198) || !in(m, 0, 20)) {
            return BAD;
        }
        Break k = breaks.get(b);
        int length = length(lines.get(k.line));
        TreeSet<Integer> left = new TreeSet<>(k.spots);
        left.removeIf(s -> Math.abs((end == 0 ? s : length - s) - v) > m);
        if (k.mended >= 0 || left.isEmpty()) {
            return STATE;
        }
        k.spots = left;
        return left.size();
    }

    int[] spot(Break b) {
        return place(lines.get(b.line), b.spots.first());
    }

    int breakOf(int b, int what) {
        if (!isBreak(b) || !in(what, 0, 10)) {
            return BAD;
        }
        Break k = breaks.get(b);
        return new int[] {k.line, k.hour, k.said, k.spots.size(), k.spots.first(), k.spots.last(),
                k.mended < 0 ? NONE : k.mended, k.ship < 0 ? NONE : k.ship, openIn(k, theHour) ? 1 : 0,
                spot(k)[0], spot(k)[1]}[what];
    }

    boolean made(Break b, int x, int y, int reach, int hour) {
        if (b.hour != hour && b.hour != hour + 1 && b.hour != hour + 2) {
            return false;
        }
        for (int s : b.spots) {
            if (far(x, y, place(lines.get(b.line), s)) <= reach) {
                return true;
            }
        }
        return false;
    }

    int quake(int x, int y, int reach, int hour) {
        if (!in(x, 0, 99) || !in(y, 0, 99) || !in(reach, 0, 99) || !in(hour, 0, 999)) {
            return BAD;
        }
        int bits = 0;
        for (int b = 0; b < breaks.size(); b++) {
            bits |= made(breaks.get(b), x, y, reach, hour) ? 1 << b : 0;
        }
        return bits;
    }

    /** Marks every point that a reach covers around some SPOTS. */
    boolean[][] cover(Break b, int reach) {
        boolean[][] grid = new boolean[100][100];
        for (int s : b.spots) {
            int[] p = place(lines.get(b.line), s);
            for (int x = Math.max(0, p[0] - reach); x <= Math.min(99, p[0] + reach); x++) {
                for (int y = 0; y < 100; y++) {
                    grid[x][y] |= far(x, y, p) <= reach;
                }
            }
        }
        return grid;
    }

    int shared(int b, int c, int reach) {
        if (!isBreak(b) || !isBreak(c) || b == c || !in(reach, 0, 99)) {
            return BAD;
        }
        boolean someHour = false;
        for (int h = 0; h < 1000; h++) {
            someHour |= in(breaks.get(b).hour, h, h + 2) && in(breaks.get(c).hour, h, h + 2);
        }
        boolean[][] one = cover(breaks.get(b), reach);
        boolean[][] two = cover(breaks.get(c), reach);
        boolean both = false;
        for (int x = 0; x < 100; x++) {
            for (int y = 0; y < 100; y++) {
                both |= one[x][y] && two[x][y];
            }
        }
        return someHour && both ? 1 : 0;
    }

    int ship(int land, int reel, int leave) {
        if (!in(land, 0, lands.size() - 1) || !in(reel, 0, 99) || !in(leave, 0, 3)) {
            return BAD;
        }
        if (ships.size() == 3) {
            return FULL;
        }
        Ship s = new Ship();
        s.x = lands.get(land).x;
        s.y = lands.get(land).y;
        s.reel = reel;
        s.leave = leave;
        ships.add(s);
        return ships.size() - 1;
    }

    int shipOf(int s, int what) {
        if (!in(s, 0, ships.size() - 1) || !in(what, 0, 4)) {
            return BAD;
        }
        Ship k = ships.get(s);
        return new int[] {k.x, k.y, k.reel, k.leave, k.free}[what];
    }

    boolean may(Ship s, Break b) {
        int bit = lines.get(b.line).wet == 1 ? 2 : 1;
        return (s.leave & bit) != 0 && s.reel >= 3 + b.spots.last() - b.spots.first();
    }

    /** The ship does it: the HOUR when that is MENDED. */
    int mend(Ship s, Break b) {
        int far = far(s.x, s.y, spot(b));
        int sailing = 0;
        while (sailing * told[7] < far) {
            sailing++;
        }
        s.free = Math.max(s.free, theHour) + sailing + told[6];
        s.reel -= 3 + b.spots.last() - b.spots.first();
        s.x = spot(b)[0];
        s.y = spot(b)[1];
        return s.free;
    }

    int send(int s, int b) {
        if (!in(s, 0, ships.size() - 1) || !isBreak(b)) {
            return BAD;
        }
        Break k = breaks.get(b);
        if (!openIn(k, theHour) || k.ship >= 0 || !may(ships.get(s), k)) {
            return STATE;
        }
        k.mended = mend(ships.get(s), k);
        k.ship = s;
        return k.mended;
    }

    List<Integer> jobs() {
        List<Integer> jobs = new ArrayList<>();
        for (int b = 0; b < breaks.size(); b++) {
            if (openIn(breaks.get(b), theHour) && breaks.get(b).ship < 0) {
                jobs.add(b);
            }
        }
        return jobs;
    }

    long bestCost;
    int[] bestHands;
    int[] weights;

    void weigh() {
        weights = new int[8];
        for (int b : jobs()) {
            weights[b] = ahead(breaks.get(b).line, true);
        }
    }

    /** Every row of (ship, BREAK): ships' rows mix freely, so a ship's own order is all that counts. */
    void search(List<Integer> rest, List<Ship> now, int[] hands, long cost, int least) {
        if (rest.isEmpty()) {
            if (bestHands == null || cost < bestCost || cost == bestCost && Arrays.compare(hands, bestHands) < 0) {
                bestCost = cost;
                bestHands = hands.clone();
            }
            return;
        }
        for (int s = least; s < now.size(); s++) {
            for (int b : rest) {
                if (!may(now.get(s), breaks.get(b))) {
                    continue;
                }
                List<Integer> others = new ArrayList<>(rest);
                others.remove((Integer) b);
                List<Ship> then = new ArrayList<>(now);
                then.set(s, now.get(s).copy());
                int done = mend(then.get(s), breaks.get(b));
                hands[b] = s;
                search(others, then, hands, cost + (long) weights[b] * (done - theHour), s);
                hands[b] = -1;
            }
        }
    }

    int order(int what) {
        if (what != 0 && what != 1 && !isBreak(what - 10)) {
            return BAD;
        }
        List<Integer> jobs = jobs();
        if (jobs.size() > 7) {
            return STATE;
        }
        if (what == 1) {
            return jobs.stream().mapToInt(b -> 1 << b).sum();
        }
        weigh();
        bestHands = null;
        int[] hands = new int[8];
        Arrays.fill(hands, -1);
        search(jobs, ships, hands, 0, 0);
        if (bestHands == null) {
            return NONE;
        }
        return what == 0 ? (int) bestCost : bestHands[what - 10] < 0 ? NONE : bestHands[what - 10];
    }

    int plain(int what) {
        if (!in(what, 0, 1)) {
            return BAD;
        }
        List<Integer> rest = jobs();
        if (rest.size() > 7) {
            return STATE;
        }
        weigh();
        List<Ship> going = new ArrayList<>();
        for (Ship s : ships) {
            going.add(s.copy());
        }
        int cost = 0;
        while (!going.isEmpty()) {
            Ship first = going.get(0);
            for (Ship s : going) {
                first = Math.max(s.free, theHour) < Math.max(first.free, theHour) ? s : first;
            }
            int best = -1;
            for (int b : rest) {
                if (may(first, breaks.get(b))) {
                    boolean sooner = best < 0
                            || mend(first.copy(), breaks.get(b)) < mend(first.copy(), breaks.get(best));
                    best = sooner ? b : best;
                }
            }
            if (best < 0) {
                going.remove(first);
                continue;
            }
            cost += weights[best] * (mend(first, breaks.get(best)) - theHour);
            rest.remove((Integer) best);
        }
        return what == 0 ? cost : rest.size();
    }

    int coins(int h, int e, boolean down) {
        if (!in(h, 0, 5) || !in(e, 0, 999)) {
            return BAD;
        }
        int sum = 0;
        for (int[] r : rents) {
            for (int hour = r[3]; hour < r[4] && hour < theHour && r[0] == h; hour++) {
                boolean was = false;
                for (Break b : breaks) {
                    was |= b.line == r[1] && b.said <= e && openIn(b, hour);
                }
                sum += was == down ? r[5] : 0;
            }
        }
        return sum;
    }

    int owed(int h, int e) {
        return coins(h, e, true);
    }

    int paid(int h, int e) {
        return coins(h, e, false);
    }

    int plan(int from, int to, int coins) {
        return !pair(from, to) || !in(coins, 1, 999) ? BAD : add(plans, 8, from, to, coins);
    }

    boolean isSafe(int set, int bits) {
        List<int[]> ends = new ArrayList<>();
        for (Line l : lines) {
            ends.add(new int[] {l.from, l.to});
        }
        for (int p = 0; p < plans.size(); p++) {
            if ((set >> p & 1) == 1) {
                ends.add(new int[] {plans.get(p).from, plans.get(p).to});
            }
        }
        for (int a = -1; a < ends.size(); a++) {
            for (int b = a; b < ends.size(); b++) {
                List<int[]> stand = new ArrayList<>();
                for (int k = 0; k < ends.size(); k++) {
                    if (k != a && k != b) {
                        stand.add(ends.get(k));
                    }
                }
                if (bits != 0 && (bits & ~reach(Integer.lowestOneBit(bits), stand)) != 0) {
                    return false;
                }
            }
        }
        return true;
    }

    int safe(int bits, int what) {
        if (bits < 0 || bits >= 1 << lands.size() || !in(what, 0, 1)) {
            return BAD;
        }
        int[] best = null;
        for (int set = 0; set < 1 << plans.size(); set++) {
            int coins = 0;
            for (int p = 0; p < plans.size(); p++) {
                coins += (set >> p & 1) == 1 ? plans.get(p).amount : 0;
            }
            int[] row = {coins, Integer.bitCount(set), set};
            if ((best == null || Arrays.compare(row, best) < 0) && isSafe(set, bits)) {
                best = row;
            }
        }
        return best == null ? NONE : what == 0 ? best[0] : best[2];
    }

    int sheet(int k, int lane, int n) {
        if (!in(k, 0, 3) || !in(lane, 0, 2) || n > 40) {
            return BAD;
        }
        if (n < 0) {
            return -14;
        }
        sheets[k] = new Sheet();
        sheets[k].lane = lane;
        sheets[k].cells = new long[n];
        return 1;
    }

    int lay(int k, int i, int v) {
        if (!in(k, 0, 3)) {
            return BAD;
        }
        if (sheets[k] == null) {
            return -11;
        }
        if (!in(i, 0, sheets[k].cells.length - 1)) {
            return -12;
        }
        long span = 1L << (8 << sheets[k].lane);
        long low = Math.floorMod((long) v, span);
        sheets[k].cells[i] = low >= span / 2 ? low - span : low;
        return 1;
    }

    int read(int k, int lane, int f) {
        if (!in(k, 0, 3) || !in(lane, 0, 2)) {
            return BAD;
        }
        if (sheets[k] == null) {
            return -11;
        }
        if (sheets[k].lane != lane) {
            return -13;
        }
        int[] values = new int[demands.size()];
        for (int d = 0; d < values.length; d++) {
            long i = (long) f + d;
            if (i < 0 || i >= sheets[k].cells.length) {
                return -12;
            }
            if (sheets[k].cells[(int) i] < 0 || sheets[k].cells[(int) i] > 99) {
                return -20 - d;
            }
            values[d] = (int) sheets[k].cells[(int) i];
        }
        for (int d = 0; d < values.length; d++) {
            demands.get(d).amount = values[d];
        }
        return Arrays.stream(values).sum();
    }

    int count(int what) {
        int open = 0;
        for (Break b : breaks) {
            open += openIn(b, theHour) ? 1 : 0;
        }
        int lit = 0;
        for (int l = 0; l < lines.size(); l++) {
            lit += state(l) == 0 ? 1 : 0;
        }
        int[] all = {lands.size(), lines.size(), demands.size(), breaks.size(), open, ships.size(), plans.size(),
                theYear, theHour, lit, tape.length(), sheets[0] == null ? NONE : sheets[0].cells.length};
        return in(what, 0, 11) ? all[what] : BAD;
    }
}
