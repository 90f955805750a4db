/** Promise 2: operation. */
public final class OperationTest {
    private static final int LEAST = Integer.MIN_VALUE;
    private static final int GREATEST = Integer.MAX_VALUE;
    private static final int LOAD = Programs.LOAD;
    private static final int STORE = Programs.STORE;
    private static final int SWAP = Programs.SWAP;

    public static void main(String[] args) {
        numbersAscendFromZeroOfEachNode();
        thereIsNoSuchNode();
        thereIsNoSuchKind();
        thereIsNoSuchLine();
        theDelayIsNotSo();
        theFirstAndLastOfEverythingAreTaken();
        fortyAreTakenAndNoMore();
        fortyOfOneNodeLeaveRoomAtTheOthers();
        fortyDoneOnesAreFortyStill();
        aRefusedOneTakesNoNumberAndDoesNothing();
        anyValueIsTaken();
        kindsDoWhatTheyShould();
        delaysAreWaitedFor();
        lateOperationsAreDone();
        Check.end();
    }

    private static void refused(int n, int kind, int line, int delay) {
        String call = "operation(" + n + ", " + kind + ", " + line + ", 0, " + delay + ")";
        Check.due(call, new Guarded(2, 3).operation(n, kind, line, 0, delay), MeshLines.BAD);
    }

    private static void taken(int n, int kind, int line, int delay) {
        String call = "operation(" + n + ", " + kind + ", " + line + ", 0, " + delay + ")";
        Check.due(call, new Guarded(2, 3).operation(n, kind, line, 0, delay), 0);
    }

    private static void numbersAscendFromZeroOfEachNode() {
        Guarded x = new Guarded(2, 3);
        for (int k = 0; k < 3; k++) {
            for (int n = 0; n < 6; n++) {
                Check.due("operation " + k + " of node " + n, x.operation(n, LOAD, 0, 0, 0), k);
            }
        }
    }

    private static void thereIsNoSuchNode() {
        refused(-1, LOAD, 0, 0);
        refused(6, LOAD, 0, 0);
        refused(LEAST, LOAD, 0, 0);
        refused(GREATEST, LOAD, 0, 0);
    }

    private static void thereIsNoSuchKind() {
        refused(0, -1, 0, 0);
        refused(0, 3, 0, 0);
        refused(0, LEAST, 0, 0);
        refused(0, GREATEST, 0, 0);
    }

    private static void thereIsNoSuchLine() {
        refused(0, LOAD, -1, 0);
        refused(0, LOAD, 8, 0);
        refused(0, LOAD, LEAST, 0);
        refused(0, LOAD, GREATEST, 0);
    }

    private static void theDelayIsNotSo() {
        refused(0, LOAD, 0, -1);
        refused(0, LOAD, 0, 51);
        refused(0, LOAD, 0, LEAST);
        refused(0, LOAD, 0, GREATEST);
    }

    private static void theFirstAndLastOfEverythingAreTaken() {
        for (int n = 0; n < 6; n += 5) {
            for (int kind = LOAD; kind <= SWAP; kind++) {
                for (int line = 0; line < 8; line += 7) {
                    taken(n, kind, line, 0);
                    taken(n, kind, line, 50);
                }
            }
        }
    }

    private static void fortyAreTakenAndNoMore() {
        Guarded x = new Guarded(2, 3);
        for (int k = 0; k < 40; k++) {
            Check.due("operation " + k, x.operation(3, k % 3, k % 8, k, k), k);
        }
        Check.due("the 41st", x.operation(3, LOAD, 0, 0, 0), MeshLines.BAD);
        Check.due("the 41st, asked for again", x.operation(3, STORE, 7, 1, 50), MeshLines.BAD);
        Check.due("the 41st, which is wrong besides", x.operation(3, 3, 8, 1, 51), MeshLines.BAD);
    }

    private static void fortyOfOneNodeLeaveRoomAtTheOthers() {
        Guarded x = new Guarded(2, 3);
        for (int n = 0; n < 6; n++) {
            for (int k = 0; k < 40; k++) {
                Check.due("operation " + k + " of node " + n, x.operation(n, LOAD, n, 0, 0), k);
            }
            Check.due("the 41st of node " + n, x.operation(n, LOAD, n, 0, 0), MeshLines.BAD);
        }
    }

    /** Node 0 has its own line from cycle 6 on, and then one hit a cycle: the 40th is in cycle 45. */
    private static void fortyDoneOnesAreFortyStill() {
        Guarded x = new Guarded(4, 2);
        for (int k = 0; k < 40; k++) {
            x.operation(0, SWAP, 0, k + 1, 0);
        }
        x.run(44);
        Check.due("done(0)", x.done(0), 39);
        x.run(1);
        Check.due("the 40th is done too", x.done(0), 40);
        Check.due("its result", x.result(0, 39), 39);
        Check.due("its value", x.cache(0, 0, 1), 40);
        Check.due("behind 40 done ones", x.operation(0, SWAP, 0, 41, 0), MeshLines.BAD);
        x.run(100);
        Check.due("done(0), later", x.done(0), 40);
        Check.due("the value, later", x.cache(0, 0, 1), 40);
    }

    private static void aRefusedOneTakesNoNumberAndDoesNothing() {
        Guarded x = new Guarded(2, 3);
        x.operation(0, STORE, 0, 5, 51);
        x.operation(0, STORE, 0, 5, -1);
        x.operation(0, 3, 0, 5, 0);
        x.operation(0, STORE, 8, 5, 0);
        x.operation(6, STORE, 0, 5, 0);
        x.run(100);
        Check.due("done(0)", x.done(0), 0);
        Check.due("count(0)", x.count(0), 0);
        HomeLook.due("not asked", x, 0, HomeLook.I, 0, 0, 0);
        Check.due("the first right one", x.operation(0, LOAD, 0, 0, 50), 0);
        Check.due("a wrong one between", x.operation(0, -1, 0, 0, 0), MeshLines.BAD);
        Check.due("the second right one", x.operation(0, LOAD, 0, 0, 50), 1);
    }

    private static void anyValueIsTaken() {
        int[] values = {LEAST, -1, 0, 1, GREATEST};
        for (int value : values) {
            Guarded x = new Guarded(4, 2);
            Check.due("a STORE", x.operation(0, STORE, 0, value, 0), 0);
            Check.due("a SWAP", x.operation(0, SWAP, 0, -value, 0), 1);
            x.run(10);
            Check.due("the STORE's value", x.result(0, 1), value);
            Check.due("the SWAP's value", x.cache(0, 0, 1), -value);
        }
    }

    private static void kindsDoWhatTheyShould() {
        Guarded x = new Guarded(4, 2);
        x.operation(0, STORE, 0, 4, 0);
        x.operation(0, LOAD, 0, 5, 0);
        x.operation(0, SWAP, 0, 6, 0);
        x.operation(0, SWAP, 0, 3, 0);
        x.run(50);
        Check.due("done(0)", x.done(0), 4);
        Check.due("a STORE's result", x.result(0, 0), 0);
        Check.due("a LOAD's result", x.result(0, 1), 4);
        Check.due("a SWAP's result", x.result(0, 2), 4);
        Check.due("the next SWAP's result", x.result(0, 3), 6);
        Check.due("the value", x.cache(0, 0, 1), 3);
    }

    /** Node 0 is the home of line 0: GETS is sent in the cycle behind the delay, S is five later. */
    private static void delaysAreWaitedFor() {
        int[] delays = {0, 1, 2, 25, 49, 50};
        for (int delay : delays) {
            Guarded x = new Guarded(4, 2);
            x.operation(0, LOAD, 0, 0, delay);
            x.operation(0, LOAD, 0, 0, delay);
            x.run(delay);
            Check.due("sent in the delay", x.count(0), 0);
            x.run(1);
            Check.due("sent behind the delay", x.count(0), 1);
            x.run(4);
            Check.due("not done", x.done(0), 0);
            x.run(1);
            Check.due("done by DATA", x.done(0), 1);
            Check.due("used", x.cache(0, 0, 3), delay + 6);
            x.run(delay);
            Check.due("the second one's delay begins in the next cycle", x.done(0), 1);
            x.run(1);
            Check.due("the second one is a hit", x.done(0), 2);
            Check.due("used by the hit", x.cache(0, 0, 3), 2 * delay + 7);
        }
    }

    private static void lateOperationsAreDone() {
        Guarded x = new Guarded(4, 2);
        x.operation(0, STORE, 0, 9, 0);
        x.run(100);
        Check.due("operation", x.operation(0, LOAD, 0, 0, 0), 1);
        Check.due("not before a cycle", x.done(0), 1);
        x.run(1);
        Check.due("done(0)", x.done(0), 2);
        Check.due("result(0, 1)", x.result(0, 1), 9);
    }
}
