import java.util.Random;

/** Operations for a whole object, the same ones for the same seed. */
final class Programs {
    private Programs() {
    }

    interface Operations {
        int operation(int n, int kind, int line, int value, int delay);
    }

    static void fill(MeshLines x, int seed, int most) {
        fill(new Operations() {
            @Override
            public int operation(int n, int kind, int line, int value, int delay) {
                return x.operation(n, kind, line, value, delay);
            }
        }, seed, most);
    }

    /** Few lines make contention, many of one kind make evictions: the seed chooses both. */
    static void fill(Operations x, int seed, int most) {
        Random random = new Random(seed);
        int lines = 1 + random.nextInt(8);
        int stride = 1 + random.nextInt(2);
        int delays = 1 + random.nextInt(12);
        int loads = random.nextInt(4);
        for (int n = 0; n < 6; n++) {
            int operations = random.nextInt(most + 1);
            for (int k = 0; k < operations; k++) {
                int kind = random.nextInt(4) < loads ? 0 : 1 + random.nextInt(2);
                int line = random.nextInt(lines) * stride % 8;
                x.operation(n, kind, line, random.nextInt(), random.nextInt(delays));
            }
        }
    }

    /** All nodes want all lines at once, so that buffers are full up to any depth. */
    static void crowd(MeshLines x) {
        for (int n = 0; n < 6; n++) {
            for (int k = 0; k < 40; k++) {
                x.operation(n, k % 3, (k * 3 + n) % 8, n * 100 + k, 0);
            }
        }
    }
}
