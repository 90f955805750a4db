/** Promise 2: operation. */
public final class OperationTest {
    public static void main(String[] args) {
        numbersAscend();
        wrongNumbersAreBadAndChangeNothing();
        kindsDoWhatTheyShould();
        delaysAreWaitedFor();
        lateOperationsAreDone();
        Check.end();
    }

    private static void numbersAscend() {
        MeshLines x = new MeshLines(2, 3);
        for (int n = 0; n < 6; n++) {
            for (int k = 0; k < 40; k++) {
                Check.due("operation", x.operation(n, k % 3, k % 8, k, 0), k);
            }
            Check.due("the 41st operation", x.operation(n, 0, 0, 0, 0), MeshLines.BAD);
        }
        for (int i = 0; i < 70; i++) {
            x.run(100);
        }
        Check.due("done(0)", x.done(0), 40);
        Check.due("an operation behind 40 done ones", x.operation(0, 0, 0, 0, 0), MeshLines.BAD);
    }

    private static void wrongNumbersAreBadAndChangeNothing() {
        MeshLines x = new MeshLines(2, 3);
        int[][] wrong = {
            {-1, 0, 0, 0, 0}, {6, 0, 0, 0, 0}, {Integer.MIN_VALUE, 0, 0, 0, 0},
            {0, -1, 0, 0, 0}, {0, 3, 0, 0, 0}, {0, Integer.MAX_VALUE, 0, 0, 0},
            {0, 0, -1, 0, 0}, {0, 0, 8, 0, 0}, {0, 0, Integer.MAX_VALUE, 0, 0},
            {0, 0, 0, 0, -1}, {0, 0, 0, 0, 51}, {0, 0, 0, 0, Integer.MIN_VALUE},
        };
        for (int[] w : wrong) {
            Check.due("a wrong operation", x.operation(w[0], w[1], w[2], w[3], w[4]), MeshLines.BAD);
        }
        x.run(100);
        Check.due("done(0)", x.done(0), 0);
        Check.due("count(0)", x.count(0), 0);
        Check.due("the first right one", x.operation(0, 0, 0, 0, 50), 0);
    }

    private static void kindsDoWhatTheyShould() {
        MeshLines x = new MeshLines(4, 2);
        x.operation(0, 1, 0, Integer.MIN_VALUE, 0);
        x.operation(0, 0, 0, 5, 0);
        x.operation(0, 2, 0, Integer.MAX_VALUE, 0);
        x.operation(0, 2, 0, 3, 0);
        x.run(50);
        Check.due("done(0)", x.done(0), 4);
        Check.due("a STORE's result", x.result(0, 0), 0);
        Check.due("a LOAD's result", x.result(0, 1), Integer.MIN_VALUE);
        Check.due("a SWAP's result", x.result(0, 2), Integer.MIN_VALUE);
        Check.due("the next SWAP's result", x.result(0, 3), Integer.MAX_VALUE);
        Check.due("the value", x.cache(0, 0, 1), 3);
    }

    /** Node 0 is the home of line 0: GETS is sent in the cycle behind the delay, S is five later. */
    private static void delaysAreWaitedFor() {
        for (int delay = 0; delay <= 50; delay += 10) {
            MeshLines x = new MeshLines(4, 2);
            x.operation(0, 0, 0, 0, delay);
            x.operation(0, 0, 0, 0, delay);
            x.run(delay);
            Check.due("sent in the delay", x.count(0), 0);
            x.run(1);
            Check.due("sent behind the delay", x.count(0), 1);
            x.run(4);
            Check.due("not done", x.done(0), 0);
            x.run(1);
            Check.due("done by DATA", x.done(0), 1);
            Check.due("used", x.cache(0, 0, 3), delay + 6);
            x.run(delay);
            Check.due("the second one's delay begins in the next cycle", x.done(0), 1);
            x.run(1);
            Check.due("the second one is a hit", x.done(0), 2);
            Check.due("used by the hit", x.cache(0, 0, 3), 2 * delay + 7);
        }
    }

    private static void lateOperationsAreDone() {
        MeshLines x = new MeshLines(4, 2);
        x.operation(0, 1, 0, 9, 0);
        x.run(100);
        Check.due("operation", x.operation(0, 0, 0, 0, 0), 1);
        x.run(1);
        Check.due("done(0)", x.done(0), 2);
        Check.due("result(0, 1)", x.result(0, 1), 9);
    }
}
