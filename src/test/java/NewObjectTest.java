/** Promise 1: the nearest numbers for DEPTH and FLITS, and all is empty in cycle 0. */
public final class NewObjectTest {
    private static final int LEAST = Integer.MIN_VALUE;
    private static final int GREATEST = Integer.MAX_VALUE;

    public static void main(String[] args) {
        depthIsWithinOneToFour();
        depthTooSmallIsOne();
        depthTooLargeIsFour();
        flitsAreWithinTwoToFive();
        flitsTooFewAreTwo();
        flitsTooManyAreFive();
        bothAreTheNearestAtOnce();
        itIsCycleZero();
        cachesAndHomesAreEmpty();
        buffersAreEmptyAndOutputsFree();
        nothingIsDoneOrCounted();
        objectsAreApart();
        fiveHundredAndTwelveCallsAreAnswered();
        Check.end();
    }

    private static int fullest(int depth) {
        int most = 0;
        for (int n = 0; n < 6; n++) {
            for (int port = 0; port < 5; port++) {
                for (int channel = 0; channel < 3; channel++) {
                    most = Math.max(most, Programs.fullest(depth, n, port, channel));
                }
            }
        }
        return most;
    }

    private static void depthIsWithinOneToFour() {
        for (int depth = 1; depth <= 4; depth++) {
            Check.due("DEPTH " + depth, fullest(depth), depth);
        }
    }

    private static void depthTooSmallIsOne() {
        Check.due("DEPTH 0", fullest(0), 1);
        Check.due("DEPTH -1", fullest(-1), 1);
        Check.due("the least DEPTH", fullest(LEAST), 1);
    }

    private static void depthTooLargeIsFour() {
        Check.due("DEPTH 5", fullest(5), 4);
        Check.due("DEPTH 100", fullest(100), 4);
        Check.due("the greatest DEPTH", fullest(GREATEST), 4);
    }

    /** A GETM of node 1 to node 0 goes over one link, and so does the DATA back. */
    private static int flitsOfData(int depth, int flits) {
        Guarded x = new Guarded(depth, flits);
        x.operation(1, Programs.STORE, 0, 7, 0);
        x.run(50);
        return x.count(2) - 1;
    }

    private static void flitsAreWithinTwoToFive() {
        for (int flits = 2; flits <= 5; flits++) {
            Check.due("FLITS " + flits, flitsOfData(2, flits), flits);
        }
    }

    private static void flitsTooFewAreTwo() {
        Check.due("FLITS 1", flitsOfData(2, 1), 2);
        Check.due("FLITS 0", flitsOfData(2, 0), 2);
        Check.due("FLITS -1", flitsOfData(2, -1), 2);
        Check.due("the least FLITS", flitsOfData(2, LEAST), 2);
    }

    private static void flitsTooManyAreFive() {
        Check.due("FLITS 6", flitsOfData(2, 6), 5);
        Check.due("FLITS 100", flitsOfData(2, 100), 5);
        Check.due("the greatest FLITS", flitsOfData(2, GREATEST), 5);
    }

    /** With DEPTH 1 the DATA needs two cycles a flit, and so tells both numbers at once. */
    private static void bothAreTheNearestAtOnce() {
        int[][] numbers = {{0, 9, 1, 5}, {LEAST, GREATEST, 1, 5}, {9, 0, 4, 2}, {GREATEST, LEAST, 4, 2}};
        for (int[] w : numbers) {
            Guarded x = new Guarded(w[0], w[1]);
            Guarded y = new Guarded(w[2], w[3]);
            x.operation(1, Programs.STORE, 0, 7, 0);
            y.operation(1, Programs.STORE, 0, 7, 0);
            for (int i = 0; i < 30; i++) {
                x.run(1);
                y.run(1);
                Check.due("done(1)", x.done(1), y.done(1));
                Check.due("count(2)", x.count(2), y.count(2));
            }
            Check.due("done(1) at the end", x.done(1), 1);
        }
    }

    private static void itIsCycleZero() {
        Check.due("run(0)", new Guarded(2, 3).run(0), 0);
        Check.due("run(1)", new Guarded(2, 3).run(1), 1);
    }

    private static void cachesAndHomesAreEmpty() {
        Guarded x = new Guarded(2, 3);
        for (int l = 0; l < 8; l++) {
            HomeLook.due("new", x, l, HomeLook.I, 0, 0, 0);
            for (int n = 0; n < 6; n++) {
                CacheLook.due("new", x, n, l, CacheLook.I, 0, 0, 0);
            }
        }
    }

    private static void buffersAreEmptyAndOutputsFree() {
        Guarded x = new Guarded(2, 3);
        for (int n = 0; n < 6; n++) {
            for (int c = 0; c < 3; c++) {
                for (int port = 0; port < 7; port++) {
                    Check.due("buffer", x.buffer(n, port, c), 0);
                }
                for (int output = 0; output < 5; output++) {
                    Check.due("held", x.held(n, output, c), 0);
                }
            }
        }
    }

    private static void nothingIsDoneOrCounted() {
        Guarded x = new Guarded(2, 3);
        for (int n = 0; n < 6; n++) {
            Check.due("done", x.done(n), 0);
            Check.due("result", x.result(n, 0), 0);
        }
        for (int what = 0; what < 3; what++) {
            Check.due("count", x.count(what), 0);
        }
    }

    private static void objectsAreApart() {
        Guarded x = new Guarded(2, 3);
        Guarded y = new Guarded(2, 3);
        x.operation(0, Programs.STORE, 0, 7, 0);
        x.run(40);
        Check.due("run(0) of another object", y.run(0), 0);
        Check.due("done(0) of another object", y.done(0), 0);
        Check.due("count(0) of another object", y.count(0), 0);
        HomeLook.due("another object", y, 0, HomeLook.I, 0, 0, 0);
        CacheLook.due("another object", y, 0, 0, CacheLook.I, 0, 0, 0);
        Check.due("a first operation of another object", y.operation(0, Programs.LOAD, 0, 0, 0), 0);
    }

    private static void fiveHundredAndTwelveCallsAreAnswered() {
        Guarded x = new Guarded(1, 5);
        for (int i = 1; i < Guarded.MOST_CALLS; i++) {
            x.run(100);
        }
        Check.due("the 512th call", x.run(100), 100 * Guarded.MOST_CALLS);
    }
}
