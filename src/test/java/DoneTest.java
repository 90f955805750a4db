/** Promise 5: done. */
public final class DoneTest {
    public static void main(String[] args) {
        operationsAreDoneInOrder();
        doneByDataIsAtOnceAndTheNextOneWaits();
        noSuchNodeIsBad();
        Check.end();
    }

    private static void operationsAreDoneInOrder() {
        MeshLines x = new MeshLines(4, 2);
        x.operation(0, 1, 0, 1, 50);
        x.operation(0, 1, 0, 2, 0);
        x.operation(0, 1, 0, 3, 0);
        x.operation(3, 0, 3, 0, 0);
        x.run(55);
        Check.due("done(0)", x.done(0), 0);
        Check.due("done(3)", x.done(3), 1);
        Check.due("done(1)", x.done(1), 0);
        for (int k = 1; k <= 3; k++) {
            x.run(1);
            Check.due("done(0), one more a cycle", x.done(0), k);
            Check.due("the value", x.cache(0, 0, 1), k);
        }
        x.run(100);
        Check.due("done(0)", x.done(0), 3);
    }

    /** The core does nothing more in the cycle of the DATA: the next request goes a cycle later. */
    private static void doneByDataIsAtOnceAndTheNextOneWaits() {
        MeshLines x = new MeshLines(4, 2);
        x.operation(0, 0, 0, 0, 0);
        x.operation(0, 0, 6, 0, 0);
        x.run(6);
        Check.due("done(0)", x.done(0), 1);
        Check.due("cache(0, 6, 0)", x.cache(0, 6, 0), 0);
        Check.due("count(0)", x.count(0), 2);
        x.run(1);
        Check.due("cache(0, 6, 0)", x.cache(0, 6, 0), 1);
        Check.due("count(0)", x.count(0), 3);
    }

    private static void noSuchNodeIsBad() {
        MeshLines x = new MeshLines(2, 3);
        Check.due("done(5)", x.done(5), 0);
        Check.due("done(6)", x.done(6), MeshLines.BAD);
        Check.due("done(-1)", x.done(-1), MeshLines.BAD);
        Check.due("the least", x.done(Integer.MIN_VALUE), MeshLines.BAD);
        Check.due("the greatest", x.done(Integer.MAX_VALUE), MeshLines.BAD);
    }
}
