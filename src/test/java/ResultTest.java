/** Promise 4: result. */
public final class ResultTest {
    public static void main(String[] args) {
        resultsComeWhenDone();
        noneSuchIsZero();
        swapsOfOneLineMakeAChain();
        Check.end();
    }

    private static void resultsComeWhenDone() {
        MeshLines x = new MeshLines(4, 2);
        x.operation(0, 1, 0, 5, 0);
        x.operation(0, 2, 0, 6, 10);
        x.operation(0, 0, 0, 7, 10);
        x.run(6);
        Check.due("a STORE gives 0", x.result(0, 0), 0);
        Check.due("not done", x.result(0, 1), 0);
        x.run(10);
        Check.due("not done at the end of the delay", x.result(0, 1), 0);
        x.run(1);
        Check.due("the SWAP", x.result(0, 1), 5);
        x.run(10);
        Check.due("the LOAD is not done", x.result(0, 2), 0);
        x.run(1);
        Check.due("the LOAD", x.result(0, 2), 6);
        Check.due("the SWAP still", x.result(0, 1), 5);
    }

    private static void noneSuchIsZero() {
        MeshLines x = new MeshLines(2, 3);
        x.operation(2, 1, 2, 8, 0);
        x.operation(2, 0, 2, 0, 0);
        x.run(30);
        Check.due("result(2, 1)", x.result(2, 1), 8);
        int[][] none = {
            {2, 2}, {2, 39}, {2, 40}, {2, -1}, {2, Integer.MAX_VALUE}, {2, Integer.MIN_VALUE},
            {0, 0}, {-1, 0}, {6, 0}, {Integer.MAX_VALUE, 1}, {Integer.MIN_VALUE, 1},
        };
        for (int[] w : none) {
            Check.due("result(" + w[0] + ", " + w[1] + ")", x.result(w[0], w[1]), 0);
        }
    }

    /** Every value that a SWAP puts is found by exactly one other, but for the last one. */
    private static void swapsOfOneLineMakeAChain() {
        MeshLines x = new MeshLines(1, 5);
        boolean[] found = new boolean[6 * 8 + 1];
        for (int n = 0; n < 6; n++) {
            for (int k = 0; k < 8; k++) {
                x.operation(n, 2, 3, n * 8 + k + 1, k % 3);
            }
        }
        for (int i = 0; i < 40; i++) {
            x.run(100);
        }
        int last = 0;
        for (int n = 0; n < 6; n++) {
            Check.due("done", x.done(n), 8);
            last += x.cache(n, 3, 1);
            for (int k = 0; k < 8; k++) {
                Check.holds("a value is found once", !found[x.result(n, k)]);
                found[x.result(n, k)] = true;
            }
        }
        Check.holds("the last value is found by none", last > 0 && !found[last]);
    }
}
