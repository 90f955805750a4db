import java.util.Random;

/** Operations for a whole object, the same ones for the same seed, and the kinds by their names. */
final class Programs {
    static final int LOAD = 0;
    static final int STORE = 1;
    static final int SWAP = 2;

    private Programs() {
    }

    /** Few lines make contention, many of one kind make evictions: the seed chooses both. */
    static int[] fill(Face x, int seed, int most) {
        Random random = new Random(seed);
        int[] filled = new int[6];
        int lines = 1 + random.nextInt(8);
        int stride = 1 + random.nextInt(2);
        int delays = 1 + random.nextInt(12);
        int loads = random.nextInt(4);
        for (int n = 0; n < 6; n++) {
            filled[n] = random.nextInt(most + 1);
            for (int k = 0; k < filled[n]; k++) {
                int kind = random.nextInt(4) < loads ? LOAD : STORE + random.nextInt(2);
                int line = random.nextInt(lines) * stride % 8;
                x.operation(n, kind, line, random.nextInt(), random.nextInt(delays));
            }
        }
        return filled;
    }

    /** All nodes want all lines at once, so that buffers are full up to any depth: 240 calls. */
    static Guarded crowd(int depth, int flits) {
        Guarded x = new Guarded(depth, flits);
        for (int n = 0; n < 6; n++) {
            for (int k = 0; k < 40; k++) {
                x.operation(n, k % 3, (k * 3 + n) % 8, n * 100 + k + 1, 0);
            }
        }
        return x;
    }

    /** The most flits that one buffer ever has in the crowd. */
    static int fullest(int depth, int n, int port, int channel) {
        Guarded x = crowd(depth, 5);
        int most = 0;
        while (x.callsLeft() >= 2) {
            x.run(3);
            most = Math.max(most, x.buffer(n, port, channel));
        }
        return most;
    }

    /** So many cycles, also more than one call may ask for. */
    static void run(Face x, int cycles) {
        for (int left = cycles; left > 0; left -= 100) {
            x.run(Math.min(left, 100));
        }
    }
}
