import java.util.EnumMap;
import java.util.List;
import java.util.Map;

/** Tests of one sentence of the document each: what a call answers, and that a refused one changed nothing. */
final class Edge {
    private final Due due = new Due();
    private final Map<World, List<Integer>> untouched = new EnumMap<>(World.class);
    private String sentence = "";

    /** Tells which sentence the next answers belong to. */
    void sentence(int promise, String words) {
        sentence = "promise " + promise + ", '" + words + "': ";
    }

    /** Asks a call of an object. */
    void is(int want, LandLines x, String name, long... given) {
        Call call = new Call(name, given);
        due.is(sentence + call, call.on(x), want);
    }

    /** What is seen of an object that has been asked already. */
    void is(int want, String what, int got) {
        due.is(sentence + what, got, want);
    }

    /** Asks a call of a new object of a world. */
    void is(int want, World world, String name, long... given) {
        is(want, world.make(), name, given);
    }

    /** A call is refused, and all that can be seen is as it would be without it. */
    void refused(int want, World world, String name, long... given) {
        refused(want, world, new Call(name, given));
    }

    private void refused(int want, World world, Call call) {
        due.is(sentence + call + " in " + world, call.on(world.make()), want);
        List<Integer> before = untouched.computeIfAbsent(world, w -> Seen.of(w::make));
        List<Integer> after = Seen.of(() -> {
            LandLines x = world.make();
            call.on(x);
            return x;
        });
        String unlike = Seen.firstUnlike(before, after, "");
        due.is(sentence + call + " in " + world + " changed something: " + unlike, unlike.length(), 0);
    }

    /** A text has a fault: its place and kind, and all but THE TAPE (and the FAULT) stays as it was. */
    void faulty(int place, int kind, String text) {
        LandLines x = World.SOME.make();
        x.end(0);
        due.is(sentence + "place in '" + text + "'", Due.rules(x, text), -10 - place);
        due.is(sentence + "kind in '" + text + "'", x.fault(), kind);
        due.is(sentence + "THE TAPE behind '" + text + "'", x.count(10), 0);
        List<Integer> before = Seen.of(() -> {
            LandLines y = World.SOME.make();
            y.end(0);
            return y;
        });
        List<Integer> after = Seen.of(() -> {
            LandLines y = World.SOME.make();
            y.end(0);
            Due.rules(y, text);
            return y;
        });
        String unlike = Seen.firstUnlike(before, after, "fault");
        due.is(sentence + "'" + text + "' changed something: " + unlike, unlike.length(), 0);
    }

    /** A text is taken: how many lines it tells. */
    LandLines taken(int lines, String text) {
        LandLines x = World.SOME.make();
        x.end(0);
        due.is(sentence + "lines of '" + text + "'", Due.rules(x, text), lines);
        due.is(sentence + "fault of '" + text + "'", x.fault(), 0);
        due.is(sentence + "THE TAPE behind '" + text + "'", x.count(10), 0);
        return x;
    }

    /** A number of a call: from low to high it is as told, the first ones beyond and far ones are refused. */
    void bounds(int refusal, World world, int place, int low, int high, String name, long... given) {
        Call call = new Call(name, given);
        for (long v : new long[] {low - 1L, high + 1L, Integer.MIN_VALUE, Integer.MAX_VALUE}) {
            refused(refusal, world, call.with(place, v));
        }
        for (long v : new long[] {low, high}) {
            int got = call.with(place, v).on(world.make());
            due.is(sentence + call.with(place, v) + " is taken, not " + got, got == refusal ? 0 : 1, 1);
        }
    }

    void close() {
        due.close();
    }
}
