/** Counts answers that are not as due, and prints them. */
final class Due {
    private int wrong = 0;
    private int asked = 0;

    void is(String call, long got, long want) {
        asked++;
        if (got != want) {
            wrong++;
            if (wrong <= 50) {
                System.out.println(call + " answered " + got + ", due is " + want);
            }
        }
    }

    /** Ends the program, with exit code 1 if an answer was wrong. */
    void close() {
        System.out.println(wrong == 0 ? asked + " answers are as due" : wrong + " answers are not as due");
        System.exit(wrong == 0 ? 0 : 1);
    }

    /** Lays a text on THE TAPE and cuts it to its length. */
    static void tell(LandLines x, String text) {
        int had = x.count(10);
        for (int i = 0; i < text.length(); i += 8) {
            long v = 0;
            for (int k = i; k < i + 8; k++) {
                v = v << 8 | (k < text.length() ? text.charAt(k) : ' ');
            }
            x.feed(v);
        }
        x.end(had + text.length());
    }

    /** Lays a text on THE TAPE and reads it. */
    static int rules(LandLines x, String text) {
        tell(x, text);
        return x.rules();
    }
}
