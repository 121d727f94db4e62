import java.util.ArrayList;
import java.util.List;
import java.util.function.Supplier;

/**
 * All that can be seen of an object. It asks several objects that were made alike: an object is good for
 * 512 calls only, and THE TAPE, SHEETS and how much a DEMAND is are seen only by calls that change something.
 */
final class Seen {
    private static final int MOST_ASKED = 300;
    private static final List<List<Call>> ALL = new ArrayList<>();

    static {
        List<Call> quiet = new ArrayList<>();
        addNet(quiet);
        addTraffic(quiet);
        addBreaks(quiet);
        addCoins(quiet);
        for (int i = 0; i < quiet.size(); i += MOST_ASKED) {
            ALL.add(quiet.subList(i, Math.min(quiet.size(), i + MOST_ASKED)));
        }
        ALL.add(tapeLast());
        ALL.add(sheetsLast());
    }

    private Seen() {}

    /** The answers to all that can be asked. */
    static List<Integer> of(Supplier<?> maker) {
        List<Integer> answers = new ArrayList<>();
        for (List<Call> calls : ALL) {
            Object x = maker.get();
            for (Call call : calls) {
                answers.add(call.on(x));
            }
        }
        return answers;
    }

    /** The first call that two rows of answers differ in, or nothing. */
    static String firstUnlike(List<Integer> a, List<Integer> b, String but) {
        int i = 0;
        for (List<Call> calls : ALL) {
            for (Call call : calls) {
                if (!a.get(i).equals(b.get(i)) && !call.name().equals(but)) {
                    return call + " answered " + b.get(i) + ", not " + a.get(i);
                }
                i++;
            }
        }
        return "";
    }

    private static void addNet(List<Call> all) {
        addRange(all, 12, "count");
        addRange(all, 9, "rule");
        all.add(Call.of("fault"));
        for (int l = 0; l < 12; l++) {
            all.add(Call.of("light", l));
            all.add(Call.of("until", l));
            addRange(all, 11, "lineOf", l);
        }
        for (int k = 0; k < 8; k++) {
            addRange(all, 6, "rent", k);
        }
    }

    /** Calls whose last number goes from 0 on. */
    private static void addRange(List<Call> all, int size, String name, long... ahead) {
        for (int i = 0; i < size; i++) {
            long[] given = java.util.Arrays.copyOf(ahead, ahead.length + 1);
            given[ahead.length] = i;
            all.add(new Call(name, given));
        }
    }

    private static void addTraffic(List<Call> all) {
        addRange(all, 3, "led");
        addRange(all, 4, "swings");
        for (int d = 0; d < 12; d++) {
            addRange(all, 8, "way", d);
            for (int t : new int[] {0, 1, 2, 60}) {
                addRange(all, 2, "swing", t, d);
            }
            all.add(Call.of("parts", d, 11 - d, d));
        }
        for (int r : new int[] {0, 1, 9, 400}) {
            addRange(all, 2, "worst", r);
        }
    }

    private static void addBreaks(List<Call> all) {
        for (int b = 0; b < 8; b++) {
            addRange(all, 11, "breakOf", b);
            all.add(Call.of("shared", b, 7 - b, 9));
            all.add(Call.of("quake", 12 * b, 50, 99, 490 + b));
            all.add(Call.of("order", 10 + b));
        }
        for (int s = 0; s < 3; s++) {
            addRange(all, 5, "shipOf", s);
        }
        addRange(all, 2, "order");
        addRange(all, 2, "plain");
    }

    private static void addCoins(List<Call> all) {
        for (int h = 0; h < 6; h++) {
            for (int e : new int[] {0, 19, 499, 999}) {
                all.add(Call.of("owed", h, e));
                all.add(Call.of("paid", h, e));
            }
        }
        for (int lands : new int[] {0, 3, 7, 15, 255}) {
            addRange(all, 2, "safe", lands);
        }
    }

    /** How much each DEMAND is, then what stands on THE TAPE. */
    private static List<Call> tapeLast() {
        List<Call> all = new ArrayList<>();
        for (int d = 0; d < 12; d++) {
            all.add(Call.of("much", d, 1));
        }
        all.add(Call.of("rules"));
        all.add(Call.of("fault"));
        addRange(all, 9, "rule");
        for (int k = 0; k < 8; k++) {
            addRange(all, 6, "rent", k);
        }
        return all;
    }

    private static List<Call> sheetsLast() {
        List<Call> all = new ArrayList<>();
        for (int k = 0; k < 4; k++) {
            for (int lane = 0; lane < 3; lane++) {
                addRange(all, k == lane ? 41 : 2, "read", k, lane);
                all.add(Call.of("much", 2, 1));
            }
        }
        return all;
    }
}
