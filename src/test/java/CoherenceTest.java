/** What must hold in every cycle and at the end of every run, whatever the times are. */
public final class CoherenceTest {
    private static final int I = CacheLook.I;
    private static final int S = CacheLook.S;
    private static final int SMAD = CacheLook.SMAD;
    private static final int M = CacheLook.M;
    private static final int ENOUGH = 12000;
    // PUTM and DONE to make room, then GETM, DATA, five INV and five ACK. The program makes an object
    // for each packet and relies on this bound.
    private static final int MOST_PACKETS = 14;

    public static void main(String[] args) {
        for (int seed = 1000; seed < 1060; seed++) {
            for (int l = 0; l < 8; l++) {
                oneWriterOrManyReaders(seed, l);
            }
            allIsDone(seed);
            copiesAreAlike(seed);
        }
        Check.end();
    }

    private static Guarded started(int seed) {
        return new Guarded(1 + seed % 4, 2 + seed / 4 % 4);
    }

    private static void oneWriterOrManyReaders(int seed, int l) {
        Guarded x = started(seed);
        Programs.fill(x, seed, 40);
        while (x.callsLeft() >= 7) {
            x.run(1 + seed % 11);
            int writers = 0;
            int readers = 0;
            for (int n = 0; n < 6; n++) {
                int state = x.cache(n, l, 0);
                writers += state == M ? 1 : 0;
                readers += state == S || state == SMAD ? 1 : 0;
            }
            Check.holds("one writer or many readers of a line", writers + (readers > 0 ? 1 : 0) <= 1);
        }
    }

    private static void allIsDone(int seed) {
        Guarded x = started(seed);
        int[] filled = Programs.fill(x, seed, 40);
        Programs.run(x, ENOUGH);
        int operations = 0;
        for (int n = 0; n < 6; n++) {
            Check.due("all operations are done", x.done(n), filled[n]);
            operations += filled[n];
        }
        int sent = x.count(0);
        Check.due("all packets arrived", x.count(1), sent);
        Check.holds("the packets of an operation are bounded", sent <= operations * MOST_PACKETS);
        for (int i = 0; i < 6 * 5 * 3; i++) {
            Check.due("all buffers are empty", x.buffer(i / 15, i / 3 % 5, i % 3), 0);
        }
    }

    private static void copiesAreAlike(int seed) {
        for (int l = 0; l < 8; l++) {
            Guarded x = started(seed);
            Programs.fill(x, seed, 40);
            Programs.run(x, ENOUGH);
            int sharers = 0;
            for (int n = 0; n < 6; n++) {
                int state = x.cache(n, l, 0);
                Check.holds("a state at rest", state == I || state == S || state == M);
                Check.due("no ACK is missing", x.cache(n, l, 2), 0);
                Check.holds("the owner is known", state == M == (x.home(l, 2) == n + 1));
                if (state == S) {
                    sharers |= 1 << n;
                    Check.due("a copy is the home's value", x.cache(n, l, 1), x.home(l, 1));
                }
            }
            Check.due("the sharers are known", x.home(l, 3), sharers);
        }
    }
}
