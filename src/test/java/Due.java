/** Counts the calls of a test whose answer is not the one that is due. */
final class Due {
    static final int LOW = -1000000000;
    static final int BEYOND = LOW - 1;
    static final int NONE = LOW - 2;
    static final int STATE = LOW - 3;
    static final int FULL = LOW - 4;
    static final int KIND = LOW - 5;
    static final int PARTED = LOW - 6;

    private static int asked = 0;
    private static int wrong = 0;

    private Due() {
    }

    static void due(String call, long got, long want) {
        asked++;
        if (got != want) {
            wrong++;
            if (wrong <= 40) {
                System.out.println(call + " answered " + got + ", due is " + want);
            }
        }
    }

    static void holds(String what, boolean is) {
        asked++;
        if (!is) {
            wrong++;
            System.out.println("not so: " + what);
        }
    }

    /** Feeds a text to THE TAPE, eight bytes at most a call. */
    static void feed(FathersPay x, String text) {
        for (int from = 0; from < text.length(); from += 8) {
            int n = Math.min(8, text.length() - from);
            due("feed of " + text, x.feed(word(text.substring(from, from + n)), n), from + n);
        }
    }

    static long word(String bytes) {
        long word = 0;
        for (int i = bytes.length() - 1; i >= 0; i--) {
            word = word << 8 | bytes.charAt(i) & 255;
        }
        return word;
    }

    static void end() {
        System.out.println(asked + " answers asked, " + wrong + " not as due");
        if (wrong != 0) {
            System.exit(1);
        }
    }
}
