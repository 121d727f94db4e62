import java.util.Arrays;
import java.util.HashMap;
import java.util.Map;
import java.util.Random;

/** Long runs of calls on LandLines and on the Model, which must answer alike. */
public final class OracleTest {
    private static final int RUNS = 2500;
    private static final int MOST_CALLS = 512;
    private static final int WORLD_EVERY = 30;
    private static final int MOST_FILLING = 200;
    private static final String[] SETUP = {"land", "land", "line", "line", "line", "demand", "demand", "plan", "ship"};
    private static final String[] ALL = {"land", "line", "lineOf", "light", "until", "change", "year", "hour", "feed",
        "end", "rules", "fault", "rule", "rent", "demand", "much", "led", "way", "parts", "worst", "swing", "swings",
        "cut", "echo", "breakOf", "quake", "shared", "ship", "shipOf", "send", "order", "plain", "owed", "paid",
        "plan", "safe", "sheet", "lay", "read", "count"};

    private final Due due;
    private final int run;
    private final Random random;
    private final LandLines x = new LandLines();
    private final Model m = new Model();
    private final int wide;
    private final Map<String, Integer> well;
    private int calls = 0;

    private OracleTest(Due due, int run, Map<String, Integer> well) {
        this.due = due;
        this.run = run;
        this.well = well;
        random = new Random(run);
        wide = new int[] {4, 12, 30, 100}[random.nextInt(4)];
    }

    public static void main(String[] args) {
        Due due = new Due();
        Map<String, Integer> well = new HashMap<>();
        for (int run = 0; run < RUNS; run++) {
            new OracleTest(due, run, well).go();
        }
        for (String name : ALL) {
            due.is(name + " was often answered without a refusal", well.getOrDefault(name, 0) > 300 ? 1 : 0, 1);
        }
        due.close();
    }

    private void go() {
        if (run % WORLD_EVERY == 0) {
            beginIn(World.values()[run / WORLD_EVERY % World.values().length]);
        }
        int setup = calls + random.nextInt(60);
        while (calls < setup) {
            ask(SETUP[random.nextInt(SETUP.length)]);
        }
        while (calls < MOST_CALLS - 40) {
            String name = ALL[random.nextInt(ALL.length)];
            if (name.equals("rules") && random.nextInt(8) > 0) {
                tellRules(Texts.some(random));
            } else if (!name.equals("send") || random.nextInt(3) == 0) {
                ask(name);
            }
        }
    }

    /** Seldom, for the Model tries every order: a run that begins with all places taken, or many. */
    private void beginIn(World world) {
        world.fill(x);
        world.fill(m);
        calls = MOST_FILLING;
    }

    private void tellRules(String text) {
        call("end", 0);
        for (long v : Texts.bytes(text)) {
            call("feed", v);
        }
        call("end", text.length());
        call("rules");
        call("fault");
    }

    private void ask(String name) {
        if (name.equals("feed")) {
            call(name, random.nextLong());
        } else {
            call(name, Arrays.stream(arguments(name)).asLongStream().toArray());
        }
    }

    private void call(String name, long... given) {
        calls++;
        Call call = new Call(name, given);
        int want = call.on(m);
        if (want >= 0) {
            well.merge(name, 1, Integer::sum);
        }
        due.is("run " + run + ", call " + calls + ": " + call, call.on(x), want);
    }

    /** A number in its bounds, seldom beyond them. */
    private int number(int low, int high) {
        switch (random.nextInt(200)) {
            case 0: return low - 1;
            case 1: return high + 1;
            case 2: return Integer.MIN_VALUE;
            case 3: return Integer.MAX_VALUE;
            default: return high <= low ? low : low + random.nextInt(high - low + 1);
        }
    }

    private int oftenLess(int less, int high) {
        return number(0, random.nextInt(3) == 0 ? high : less);
    }

    private int land() {
        return number(0, m.lands.size() - 1);
    }

    private int line() {
        return number(0, m.lines.size() - 1);
    }

    private int brokenOne() {
        return number(0, m.breaks.size() - 1);
    }

    private int demand() {
        return number(0, m.demands.size() - 1);
    }

    private int ship() {
        return number(0, m.ships.size() - 1);
    }

    private int later(int now, int most) {
        int far = random.nextInt(8) == 0 ? 60 : 6;
        return random.nextInt(40) == 0 ? number(0, most) : Math.min(most, now + random.nextInt(far));
    }

    private int shortlyAgo() {
        return m.theHour - random.nextInt(8);
    }

    /** Few LANDS, so that some set of PLANS may be SAFE. */
    private int landBits() {
        int bits = number(0, (1 << m.lands.size()) - 1);
        return random.nextInt(3) > 0 ? bits & (1 << random.nextInt(8) | 1 << random.nextInt(8)) : bits;
    }

    private static int[] row(int... numbers) {
        return numbers;
    }

    private int[] arguments(String name) {
        switch (name) {
            case "land": return row(number(0, wide - 1), number(0, wide - 1));
            case "line": return row(land(), land(), number(0, 1), number(1, random.nextBoolean() ? 2 : 8),
                    oftenLess(3, 20), oftenLess(9, 99));
            case "lineOf": return row(line(), number(0, 10));
            case "light": case "until": return row(line());
            case "change": return row(line(), oftenLess(3, 20), number(1, 8));
            case "year": return row(later(m.theYear, 99));
            case "hour": return row(later(m.theHour, 999));
            case "end": return row(number(0, m.tape.length()));
            case "rule": return row(number(0, 8));
            case "rent": return row(number(0, m.rents.size() - 1), number(0, 5));
            case "demand": return row(land(), land(), number(1, random.nextBoolean() ? 12 : 99));
            case "much": return row(demand(), oftenLess(12, 99));
            case "led": return row(number(0, 2));
            case "way": return row(demand(), number(0, 3));
            case "parts": return row(line(), line(), oftenLess(20, 400));
            case "worst": return row(oftenLess(20, 400), number(0, 1));
            case "swing": return row(oftenLess(5, 60), demand(), number(0, 3));
            case "swings": return row(number(0, 3));
            case "cut": return row(line(), shortlyAgo());
            default: return moreArguments(name);
        }
    }

    private int[] moreArguments(String name) {
        switch (name) {
            case "echo": return row(brokenOne(), number(0, 1), oftenLess(2 * wide - 2, 198), number(0, 20));
            case "breakOf": return row(brokenOne(), number(0, 10));
            case "quake": return row(number(0, wide - 1), number(0, wide - 1), oftenLess(9, 99), shortlyAgo());
            case "shared": return row(brokenOne(), brokenOne(), oftenLess(wide / 4, 99));
            case "ship": return row(land(), number(0, 99), random.nextBoolean() ? 3 : number(0, 3));
            case "shipOf": return row(ship(), number(0, 4));
            case "send": return row(ship(), brokenOne());
            case "order": return row(random.nextInt(3) == 0 ? number(0, 1) : 10 + brokenOne());
            case "plain": return row(number(0, 1));
            case "owed": case "paid": return row(number(0, 5), random.nextInt(3) == 0 ? number(0, 999) : shortlyAgo());
            case "plan": return row(land(), land(), random.nextBoolean() ? number(1, 4) : number(1, 999));
            case "safe": return row(landBits(), number(0, 1));
            case "sheet": return row(number(0, 3), number(0, 2), number(0, 40));
            case "lay": return row(number(0, 3), number(0, 39),
                    random.nextInt(12) == 0 ? random.nextInt() : oftenLess(12, 99));
            case "read": return row(number(0, 3), number(0, 2), number(-1, 20));
            case "count": return row(number(0, 11));
            default: return row();
        }
    }
}
