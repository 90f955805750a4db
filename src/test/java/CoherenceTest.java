/** What must hold in every cycle and at the end of every run, whatever the times are. */
public final class CoherenceTest {
    private static final int S = 4;
    private static final int SMAD = 5;
    private static final int M = 7;

    public static void main(String[] args) {
        for (int seed = 1000; seed < 1060; seed++) {
            MeshLines x = new MeshLines(1 + seed % 4, 2 + seed / 4 % 4);
            Programs.fill(x, seed, 40);
            for (int i = 0; i < 400; i++) {
                x.run(1);
                oneWriterOrManyReaders(x);
            }
            for (int i = 0; i < 300; i++) {
                x.run(100);
            }
            nothingIsLeftOpen(x, seed);
        }
        Check.end();
    }

    private static void oneWriterOrManyReaders(MeshLines x) {
        for (int l = 0; l < 8; l++) {
            int writers = 0;
            int readers = 0;
            for (int n = 0; n < 6; n++) {
                int state = x.cache(n, l, 0);
                writers += state == M ? 1 : 0;
                readers += state == S || state == SMAD ? 1 : 0;
            }
            Check.holds("one writer or many readers of a line", writers + (readers > 0 ? 1 : 0) <= 1);
        }
    }

    private static void nothingIsLeftOpen(MeshLines x, int seed) {
        int[] operations = new int[6];
        Programs.fill(new Programs.Operations() {
            @Override
            public int operation(int n, int kind, int line, int value, int delay) {
                return operations[n]++;
            }
        }, seed, 40);
        for (int n = 0; n < 6; n++) {
            Check.due("all operations are done", x.done(n), operations[n]);
        }
        Check.due("all packets arrived", x.count(1), x.count(0));
        Check.due("all buffers are empty", Seen.fullestBuffer(x), 0);
        for (int l = 0; l < 8; l++) {
            copiesAreAlike(x, l);
        }
    }

    private static void copiesAreAlike(MeshLines x, int l) {
        int sharers = 0;
        for (int n = 0; n < 6; n++) {
            int state = x.cache(n, l, 0);
            Check.holds("a state at rest", state == 0 || state == S || state == M);
            Check.due("no ACK is missing", x.cache(n, l, 2), 0);
            Check.holds("the owner is known", (state == M) == (x.home(l, 2) == n + 1));
            if (state == S) {
                sharers |= 1 << n;
                Check.due("a copy is the home's value", x.cache(n, l, 1), x.home(l, 1));
            }
        }
        Check.due("the sharers are known", x.home(l, 3), sharers);
    }
}
