/** Promise 4: result. */
public final class ResultTest {
    public static void main(String[] args) {
        resultsComeWhenDone();
        aResultStays();
        notDoneIsZero();
        noSuchOperationIsZero();
        noSuchNodeIsZero();
        theFirstAndTheLastOfForty();
        swapsOfOneLineMakeAChain();
        Check.end();
    }

    /** STORE 5, SWAP 6 and LOAD of line 0 by its home: done in the cycles 6, 17 and 28. */
    private static Guarded three() {
        Guarded x = new Guarded(4, 2);
        x.operation(0, Programs.STORE, 0, 5, 0);
        x.operation(0, Programs.SWAP, 0, 6, 10);
        x.operation(0, Programs.LOAD, 0, 7, 10);
        return x;
    }

    private static void resultsComeWhenDone() {
        Guarded x = three();
        x.run(6);
        Check.due("a STORE gives 0", x.result(0, 0), 0);
        x.run(11);
        Check.due("the SWAP", x.result(0, 1), 5);
        x.run(11);
        Check.due("the LOAD", x.result(0, 2), 6);
    }

    private static void aResultStays() {
        Guarded x = three();
        x.operation(0, Programs.STORE, 0, 99, 0);
        x.run(100);
        Check.due("done(0)", x.done(0), 4);
        Check.due("the SWAP still", x.result(0, 1), 5);
        Check.due("the LOAD still", x.result(0, 2), 6);
    }

    private static void notDoneIsZero() {
        Guarded x = three();
        Check.due("before the first cycle", x.result(0, 0), 0);
        x.run(16);
        Check.due("the SWAP at the end of its delay", x.result(0, 1), 0);
        Check.due("the LOAD behind it", x.result(0, 2), 0);
        x.run(11);
        Check.due("the LOAD at the end of its delay", x.result(0, 2), 0);
    }

    private static Guarded ofNodeTwo() {
        Guarded x = new Guarded(2, 3);
        x.operation(2, Programs.STORE, 2, 8, 0);
        x.operation(2, Programs.LOAD, 2, 0, 0);
        x.run(30);
        Check.due("result(2, 1)", x.result(2, 1), 8);
        return x;
    }

    private static void noSuchOperationIsZero() {
        Guarded x = ofNodeTwo();
        int[] none = {2, 3, 39, 40, 41, -1, -2, Integer.MAX_VALUE, Integer.MIN_VALUE};
        for (int k : none) {
            Check.due("result(2, " + k + ")", x.result(2, k), 0);
        }
        Check.due("a node without operations", x.result(0, 0), 0);
        Check.due("a node without operations", x.result(3, 1), 0);
    }

    private static void noSuchNodeIsZero() {
        Guarded x = ofNodeTwo();
        int[] none = {-1, 6, 8, -4, Integer.MAX_VALUE, Integer.MIN_VALUE};
        for (int n : none) {
            Check.due("result(" + n + ", 0)", x.result(n, 0), 0);
            Check.due("result(" + n + ", 1)", x.result(n, 1), 0);
            Check.due("result(" + n + ", -1)", x.result(n, -1), 0);
        }
    }

    private static void theFirstAndTheLastOfForty() {
        Guarded x = new Guarded(4, 2);
        x.operation(5, Programs.LOAD, 5, 0, 0);
        for (int k = 1; k < 40; k++) {
            x.operation(5, Programs.SWAP, 5, k, 0);
        }
        x.run(100);
        Check.due("the first", x.result(5, 0), 0);
        Check.due("the third", x.result(5, 2), 1);
        Check.due("the last", x.result(5, 39), 38);
        Check.due("behind the last", x.result(5, 40), 0);
    }

    /** Every value that a SWAP puts is found by exactly one other, but for the last one. */
    private static void swapsOfOneLineMakeAChain() {
        Guarded x = new Guarded(1, 5);
        boolean[] found = new boolean[6 * 8 + 1];
        for (int n = 0; n < 6; n++) {
            for (int k = 0; k < 8; k++) {
                x.operation(n, Programs.SWAP, 3, n * 8 + k + 1, k % 3);
            }
        }
        Programs.run(x, 4000);
        int last = 0;
        for (int n = 0; n < 6; n++) {
            Check.due("done", x.done(n), 8);
            last += x.cache(n, 3, 1);
            for (int k = 0; k < 8; k++) {
                int value = x.result(n, k);
                Check.holds("a value is found once", !found[value]);
                found[value] = true;
            }
        }
        Check.holds("the last value is found by none", last > 0 && !found[last]);
    }
}
