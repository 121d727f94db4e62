import java.util.Random;

/** Texts of rules, whole ones and such with a fault. */
final class Texts {
    private static final String[] WORDS = {"send", "need", "loss", "splice", "age", "room", "mend", "sail"};
    private static final int[] HIGH = {300, 80, 2, 3, 2, 50, 20, 20};

    private Texts() {}

    static String some(Random random) {
        StringBuilder s = new StringBuilder();
        int lines = random.nextInt(12);
        int told = 0;
        for (int i = 0; i < lines; i++) {
            int k = random.nextInt(20);
            if (k >= WORDS.length) {
                addRent(s, random);
            } else if ((told >> k & 1) == 0 || random.nextInt(10) == 0) {
                told |= 1 << k;
                int low = k >= 5 ? 1 : 0;
                int high = random.nextInt(30) == 0 ? 1100 : HIGH[k];
                s.append(WORDS[k]).append(' ').append(within(random, low, high)).append(';');
            }
        }
        if (random.nextInt(4) == 0) {
            spoil(s, random);
        }
        return s.length() > 240 ? s.substring(0, 240) : s.toString();
    }

    static long[] bytes(String text) {
        long[] row = new long[(text.length() + 7) / 8];
        for (int i = 0; i < row.length * 8; i++) {
            row[i / 8] = row[i / 8] << 8 | (i < text.length() ? text.charAt(i) : ' ');
        }
        return row;
    }

    private static int within(Random random, int low, int high) {
        return low + random.nextInt(high - low + 1);
    }

    private static void addRent(StringBuilder s, Random random) {
        int from = within(random, 0, random.nextInt(4) == 0 ? 940 : 30);
        int far = random.nextInt(20) == 0 ? 0 : within(random, 1, 50);
        s.append("rent ").append((char) ('a' + within(random, 0, random.nextInt(20) == 0 ? 8 : 5)))
                .append(within(random, 0, random.nextInt(3) == 0 ? 12 : 3)).append(' ')
                .append(within(random, 1, 8)).append("from").append(from).append("to").append(from + far)
                .append("for").append(within(random, 0, 99)).append(';');
    }

    private static void spoil(StringBuilder s, Random random) {
        String signs = " ;a5z,Q0\u0000r{`:/\u00ff";
        if (s.length() > 0 && random.nextBoolean()) {
            s.setCharAt(random.nextInt(s.length()), signs.charAt(random.nextInt(signs.length())));
        } else if (random.nextBoolean()) {
            s.setLength(random.nextInt(s.length() + 1));
        } else {
            s.insert(random.nextInt(s.length() + 1), signs.charAt(random.nextInt(signs.length())));
        }
    }
}
