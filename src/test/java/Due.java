import java.util.function.IntToLongFunction;

/** Counts the calls of a test whose answer is not the one that is due. */
final class Due {
    static final int LOW = -1000000000;
    static final int BEYOND = LOW - 1;
    static final int NONE = LOW - 2;
    static final int STATE = LOW - 3;
    static final int FULL = LOW - 4;
    static final int KIND = LOW - 5;
    static final int PARTED = LOW - 6;

    private static int asked = 0;
    private static int wrong = 0;
    private static String words = "";

    private Due() {
    }

    /** The sentence of the document that what follows is a test of; it is told with what isn't as due. */
    static void sentence(String ofDocument) {
        words = "[" + ofDocument + "] ";
    }

    static void due(String call, long got, long want) {
        asked++;
        if (got != want) {
            wrong++;
            if (wrong <= 40) {
                System.out.println(words + call + " answered " + got + ", due is " + want);
            }
        }
    }

    static void holds(String what, boolean is) {
        asked++;
        if (!is) {
            wrong++;
            System.out.println(words + "not so: " + what);
        }
    }

    /** The first and the last number that a call takes; beyond each end it is BEYOND. */
    static void ends(String call, IntToLongFunction act, int first, int last) {
        due(call + " of " + (first - 1), act.applyAsLong(first - 1), BEYOND);
        due(call + " of " + (last + 1), act.applyAsLong(last + 1), BEYOND);
        due(call + " of the least int", act.applyAsLong(Integer.MIN_VALUE), BEYOND);
        due(call + " of the greatest int", act.applyAsLong(Integer.MAX_VALUE), BEYOND);
        holds(call + " takes " + first, act.applyAsLong(first) >= LOW);
        holds(call + " takes " + last, act.applyAsLong(last) >= LOW);
    }

    /** Feeds a text to THE TAPE, eight bytes at most a call. */
    static void feed(FathersPay x, String text) {
        for (int from = 0; from < text.length(); from += 8) {
            int n = Math.min(8, text.length() - from);
            due("feed of " + text, x.feed(word(text.substring(from, from + n)), n), from + n);
        }
    }

    static long word(String bytes) {
        long word = 0;
        for (int i = bytes.length() - 1; i >= 0; i--) {
            word = word << 8 | bytes.charAt(i) & 255;
        }
        return word;
    }

    static void end() {
        System.out.println(asked + " answers asked, " + wrong + " not as due");
        if (wrong != 0) {
            System.exit(1);
        }
    }
}
