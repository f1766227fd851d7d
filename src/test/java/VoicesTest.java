/** Promises 25 and 26: VOICES, THE TRACE. */
public final class VoicesTest {
    private static final int K = 2;
    private static final int M = 5;

    public static void main(String[] args) {
        promise25();
        promise25Wraps();
        promise25Parted();
        promise26();
        Due.end();
    }

    private static FathersPay ofKind(int kind) {
        FathersPay x = new FathersPay();
        x.person(0, 0, 0);
        x.person(0, 0, 0);
        x.person(100 * kind + M, 0, 0);
        return x;
    }

    private static void voice(int kind, int voice, int x, int due, int... bodies) {
        FathersPay town = ofKind(kind);
        Due.due("voice " + voice + " of KIND " + kind, town.voice(K, voice, x), due);
        Due.due("how many BODIES", town.count(8), bodies.length);
        for (int i = 0; i < bodies.length; i++) {
            Due.due("BODY " + i + " of voice " + voice + " of KIND " + kind, town.body(i), bodies[i]);
        }
        Due.due("no more", town.body(bodies.length), Due.NONE);
    }

    private static void promise25() {
        voice(0, 0, 100, 102, 10);
        voice(0, 1, 100, 204, 11, 10);
        voice(0, 2, 100, 199, 12, 11, 10);
        voice(0, 3, 100, 33, 13);
        voice(0, 3, -100, -33, 13);
        voice(1, 0, 100, 96, 20, 10);
        voice(1, 1, 100, 192, 11, 20, 10);
        voice(1, 2, 100, 187, 12, 11, 20, 10);
        voice(1, 3, 100, 27, 21, 13, 11, 20, 10);
        voice(2, 0, 100, 102, 10);
        voice(2, 1, 100, -204, 30, 11, 10);
        voice(2, 2, 100, -209, 12, 30, 11, 10);
        voice(2, 3, 100, 33, 13);
        voice(3, 0, 100, 102, 10);
        voice(3, 1, 100, 204, 11, 10);
        voice(3, 2, 101, 99, 40, 12, 11, 10);
        voice(3, 2, -101, -101, 40, 12, 11, 10);
        voice(3, 3, 100, 33, 13);
        voice(4, 0, 100, 288, 50, 20, 10);
        voice(4, 1, 100, 576, 11, 50, 20, 10);
        voice(4, 2, 100, 571 ^ 2, 51, 12, 11, 50, 20, 10);
        voice(4, 3, 100, 33 + (1 + 2 - 6) * 3 * 2, 21, 13, 11, 50, 20, 10);
        voice(5, 0, 100, 102, 10);
        voice(5, 1, 100, 206, 60, 11, 10);
        voice(5, 2, 100, 101, 40, 12, 60, 11, 10);
        voice(5, 3, 100, 33, 13);
        voice(6, 0, 100, 7, 70);
        voice(6, 1, 100, 19, 71, 11, 70);
        voice(6, 2, 100, 14, 12, 71, 11, 70);
        voice(6, 3, 100, 33, 13);
        FathersPay x = ofKind(0);
        Due.due("person above", x.voice(3, 0, 0), Due.BEYOND);
        Due.due("person below", x.voice(-1, 0, 0), Due.BEYOND);
        Due.due("voice above", x.voice(K, 4, 0), Due.BEYOND);
        Due.due("voice below", x.voice(K, -1, 0), Due.BEYOND);
        x.set(K, 4, 0);
        Due.due("a dead one speaks", x.voice(K, 0, 1), 3);
        x.set(K, 0, 4);
        Due.due("as the KIND is now", x.voice(K, 0, 1), -9);
        x.set(K, 1, 90);
        Due.due("as m is now", x.voice(K, 2, 1), -18 - 90 ^ 2);
    }

    private static void promise25Wraps() {
        int min = Integer.MIN_VALUE;
        int max = Integer.MAX_VALUE;
        voice(0, 0, max, min + 1, 10);
        voice(0, 1, max, 2, 11, 10);
        voice(1, 0, min, min + 2 - 6, 20, 10);
        voice(4, 0, max, (min + 1 - 6) * 3, 50, 20, 10);
        voice(5, 1, max, (min + 2) * 2, 60, 11, 10);
        FathersPay x = new FathersPay();
        for (int p = 0; p < 4; p++) {
            x.person(2, 0, 0);
        }
        Due.due("by -1 it wraps", x.voice(3, 3, min), min);
        Due.due("by 1", x.voice(1, 3, min), min);
        x.seed(0);
        // an answer that looks like an ERROR but is none
        Due.due("low, but no ERROR", x.voice(0, 0, Due.STATE), Due.STATE);
        Due.due("so", x.told(3), 0);
        Due.due("low, but no ERROR", x.voice(0, 0, Due.PARTED), Due.PARTED);
        Due.due("so", x.told(6), 0);
    }

    private static void promise25Parted() {
        FathersPay x = new FathersPay();
        x.person(0, 0, 0);
        x.person(101, 0, 0);
        x.person(402, 0, 0);
        Due.due("by 0", x.voice(0, 3, 9), Due.PARTED);
        Due.due("BODY", x.body(0), 13);
        Due.due("one", x.count(8), 1);
        Due.due("in the middle", x.voice(1, 3, 9), Due.PARTED);
        Due.due("BODY", x.body(0), 21);
        Due.due("BODY", x.body(1), 13);
        Due.due("what is left isn't begun", x.count(8), 2);
        Due.due("by 0", x.voice(2, 3, 0), Due.PARTED);
        Due.due("told", x.told(6), 3);
        x.set(0, 1, 1);
        Due.due("no more", x.voice(0, 3, 9), 9);
        Due.due("told", x.told(6), 3);
        Due.due("who says nothing of it isn't PARTED", x.voice(2, 2, 9), (9 + 2 - 6) * 3 * 2 - 2 ^ 2);
    }

    private static void promise26() {
        FathersPay x = new FathersPay();
        x.person(0, 0, 0);
        Due.due("none at first", x.body(0), Due.NONE);
        x.voice(0, 1, 0);
        Due.due("first", x.body(0), 11);
        Due.due("second", x.body(1), 10);
        Due.due("no third", x.body(2), Due.NONE);
        Due.due("below", x.body(-1), Due.NONE);
        Due.due("far above", x.body(30), Due.NONE);
        Due.due("BEYOND", x.voice(9, 0, 0), Due.BEYOND);
        Due.due("THE TRACE stays by BEYOND", x.body(1), 10);
        x.voice(0, 0, 0);
        Due.due("the latest alone", x.body(0), 10);
        Due.due("of one BODY", x.body(1), Due.NONE);
        Due.due("told of NONE", x.told(2), 5);
    }
}
