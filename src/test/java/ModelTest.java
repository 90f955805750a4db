import java.util.Random;

/**
 * All promises: over many seeded runs of 512 calls, some of them with wrong numbers, the program
 * answers what the plain model answers.
 */
public final class ModelTest {
    private static final int SEEDS = 3000;

    public static void main(String[] args) {
        for (int seed = 0; seed < SEEDS; seed++) {
            follow(seed);
        }
        Check.end();
    }

    private static void follow(int seed) {
        Random random = new Random(seed);
        int depth = random.nextInt(7) - 1;
        int flits = random.nextInt(7);
        Guarded x = new Guarded(depth, flits);
        PlainModel model = new PlainModel(depth, flits);
        int most = random.nextInt(42);
        Programs.fill(x, seed, most);
        Programs.fill(model, seed, most);
        int longest = 1 + random.nextInt(20);
        int runs = 1 + random.nextInt(9);
        while (x.callsLeft() > 0) {
            if (random.nextInt(10) < runs) {
                int n = random.nextInt(longest + 1);
                Check.due("seed " + seed + ": run(" + n + ")", x.run(n), model.run(n));
            } else {
                call(seed, random, x, model);
            }
        }
    }

    /** A number of 0 .. most, and now and then one beyond. */
    private static int upTo(Random random, int most) {
        if (random.nextInt(40) > 0) {
            return random.nextInt(most + 1);
        }
        int[] beyond = {-1, most + 1, most + 2, Integer.MIN_VALUE, Integer.MAX_VALUE};
        return beyond[random.nextInt(beyond.length)];
    }

    private static void call(int seed, Random random, Face x, Face model) {
        int a = upTo(random, 5);
        int l = upTo(random, 7);
        int what = upTo(random, 3);
        int port = upTo(random, 6);
        int channel = upTo(random, 2);
        int k = upTo(random, 39);
        int delay = upTo(random, 50);
        String where = "seed " + seed + ": ";
        switch (random.nextInt(17)) {
            case 0 -> Check.due(where + "done(" + a + ")", x.done(a), model.done(a));
            case 1, 2 -> Check.due(where + "result(" + a + ", " + k + ")", x.result(a, k), model.result(a, k));
            case 3, 4, 5, 6 -> Check.due(where + "cache(" + a + ", " + l + ", " + what + ")",
                x.cache(a, l, what), model.cache(a, l, what));
            case 7, 8, 9 -> Check.due(where + "home(" + l + ", " + what + ")", x.home(l, what), model.home(l, what));
            case 10, 11, 12 -> Check.due(where + "buffer(" + a + ", " + port + ", " + channel + ")",
                x.buffer(a, port, channel), model.buffer(a, port, channel));
            case 13, 14 -> Check.due(where + "held(" + a + ", " + port + ", " + channel + ")",
                x.held(a, port, channel), model.held(a, port, channel));
            case 15 -> Check.due(where + "count(" + what + ")", x.count(what), model.count(what));
            default -> Check.due(where + "operation(" + a + ", " + what + ", " + l + ", " + k + ", " + delay + ")",
                x.operation(a, what, l, k, delay), model.operation(a, what, l, k, delay));
        }
    }
}
