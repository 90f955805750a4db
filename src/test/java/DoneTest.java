/** Promise 5: done. */
public final class DoneTest {
    public static void main(String[] args) {
        noneIsDoneAtFirst();
        operationsAreDoneInOrder();
        allFortyAreDone();
        theFirstAndTheLastNode();
        noSuchNodeIsBad();
        Check.end();
    }

    private static void noneIsDoneAtFirst() {
        Guarded x = new Guarded(4, 2);
        Check.due("without operations", x.done(0), 0);
        x.operation(0, Programs.LOAD, 0, 0, 0);
        Check.due("before the first cycle", x.done(0), 0);
        x.run(5);
        Check.due("DATA is under way", x.done(0), 0);
        x.run(1);
        Check.due("DATA came", x.done(0), 1);
    }

    private static void operationsAreDoneInOrder() {
        Guarded x = new Guarded(4, 2);
        x.operation(0, Programs.STORE, 0, 1, 50);
        x.operation(0, Programs.STORE, 0, 2, 0);
        x.operation(0, Programs.STORE, 0, 3, 0);
        x.operation(3, Programs.LOAD, 3, 0, 0);
        x.run(55);
        Check.due("done(0)", x.done(0), 0);
        Check.due("done(3)", x.done(3), 1);
        Check.due("done(1)", x.done(1), 0);
        for (int k = 1; k <= 3; k++) {
            x.run(1);
            Check.due("done(0), one more a cycle", x.done(0), k);
            Check.due("the value", x.cache(0, 0, 1), k);
        }
        x.run(100);
        Check.due("done(0)", x.done(0), 3);
    }

    private static void allFortyAreDone() {
        Guarded x = Programs.crowd(4, 2);
        Programs.run(x, 10000);
        for (int n = 0; n < 6; n++) {
            Check.due("done(" + n + ")", x.done(n), 40);
        }
    }

    private static void theFirstAndTheLastNode() {
        Guarded x = new Guarded(4, 2);
        x.operation(0, Programs.LOAD, 0, 0, 0);
        x.operation(5, Programs.LOAD, 5, 0, 0);
        x.operation(5, Programs.LOAD, 5, 0, 0);
        x.run(10);
        Check.due("done(0)", x.done(0), 1);
        Check.due("done(5)", x.done(5), 2);
    }

    private static void noSuchNodeIsBad() {
        Guarded x = new Guarded(2, 3);
        Check.due("done(-1)", x.done(-1), MeshLines.BAD);
        Check.due("done(6)", x.done(6), MeshLines.BAD);
        Check.due("the least", x.done(Integer.MIN_VALUE), MeshLines.BAD);
        Check.due("the greatest", x.done(Integer.MAX_VALUE), MeshLines.BAD);
    }
}
