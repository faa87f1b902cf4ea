/** What the tests share: answers that are compared with those due, and texts that are fed. */
final class Due {
    private static int asked = 0;
    private static int wrong = 0;

    private Due() {
    }

    static void is(String call, long got, long want) {
        asked++;
        if (got != want) {
            wrong++;
            System.out.println(call + " answered " + got + ", due is " + want);
        }
    }

    static void is(String call, boolean got, boolean want) {
        is(call, got ? 1 : 0, want ? 1 : 0);
    }

    /** Ends the program, with 1 if an answer was not the one that was due. */
    static void end() {
        System.out.println(asked + " asked, " + wrong + " not as due");
        System.exit(wrong == 0 && asked > 0 ? 0 : 1);
    }

    /** Puts the bytes on an empty tape; the last feed is filled up with blanks, which no text can hold. */
    static void feed(RopeScale x, int... bytes) {
        for (int from = 0; from < bytes.length; from += 20) {
            int[] five = new int[5];
            for (int k = 0; k < 20; k++) {
                int one = from + k < bytes.length ? bytes[from + k] : ' ';
                five[k / 4] = five[k / 4] << 8 | one & 255;
            }
            x.feed(five[0], five[1], five[2], five[3], five[4]);
        }
    }

    static void feed(RopeScale x, String text) {
        int[] bytes = new int[text.length()];
        for (int k = 0; k < bytes.length; k++) {
            bytes[k] = text.charAt(k);
        }
        feed(x, bytes);
    }

    static int law(RopeScale x, String text) {
        feed(x, text);
        return x.law(text.length());
    }

    static int orders(RopeScale x, String text) {
        feed(x, text);
        return x.orders(text.length());
    }

    static int weighings(RopeScale x, String text) {
        feed(x, text);
        return x.weighings(text.length());
    }

    static RopeScale walkers(int... weights) {
        RopeScale x = new RopeScale();
        for (int p = 0; p < weights.length; p++) {
            x.walker(p, weights[p]);
        }
        return x;
    }

    static String times(int n, String line) {
        StringBuilder text = new StringBuilder(line);
        for (int k = 1; k < n; k++) {
            text.append(';').append(line);
        }
        return text.toString();
    }
}
