/** The document's draws, said once more for tests. */
final class Draws {
    private Draws() {
    }

    static int next(int z) {
        return z * 1103515245 + 12345;
    }

    static int rest(int z) {
        return (z >>> 8) % 10;
    }

    /** The least z, from 0 up, by which the rests of the next draws are these; -1 stands for any rest. */
    static int seedFor(int... rests) {
        for (int seed = 0; ; seed++) {
            int z = seed;
            boolean is = true;
            for (int i = 0; i < rests.length && is; i++) {
                z = next(z);
                is = rests[i] < 0 || rest(z) == rests[i];
            }
            if (is) {
                return seed;
            }
        }
    }
}
