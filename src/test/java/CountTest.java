/** Promise 10: count. */
public final class CountTest {
    public static void main(String[] args) {
        packetsAreSentWhenTheyComeIntoTheRow();
        packetsArriveWithTheirLastFlit();
        flitsAreCountedAtEveryLink();
        nothingGoesOverLinksWithinANode();
        packetsUnderWayAreTheDifference();
        othersAreZero();
        Check.end();
    }

    private static void counts(Guarded x, int what, int... want) {
        for (int due : want) {
            int cycle = x.run(1);
            Check.due("count(" + what + ") in cycle " + cycle, x.count(what), due);
        }
    }

    /** Node 1 loads line 0 of node 0: GETS in cycle 1, DATA of four flits in cycle 4. */
    private static Guarded asked() {
        Guarded x = new Guarded(4, 4);
        x.operation(1, Programs.LOAD, 0, 0, 0);
        return x;
    }

    private static void packetsAreSentWhenTheyComeIntoTheRow() {
        Guarded x = asked();
        Check.due("before the first cycle", x.count(0), 0);
        counts(x, 0, 1, 1, 1, 2, 2, 2, 2, 2, 2, 2, 2);
    }

    private static void packetsArriveWithTheirLastFlit() {
        counts(asked(), 1, 0, 0, 0, 1, 1, 1, 1, 1, 1, 2, 2);
    }

    private static void flitsAreCountedAtEveryLink() {
        counts(asked(), 2, 0, 0, 1, 1, 1, 2, 3, 4, 5, 5, 5);
    }

    private static void nothingGoesOverLinksWithinANode() {
        Guarded x = new Guarded(1, 5);
        x.operation(4, Programs.STORE, 4, 1, 0);
        x.run(100);
        Check.due("sent", x.count(0), 2);
        Check.due("arrived", x.count(1), 2);
        Check.due("over links", x.count(2), 0);
    }

    /** A packet that was sent and did not arrive is in a row or has a flit in a buffer. */
    private static void packetsUnderWayAreTheDifference() {
        for (int seed = 0; seed < 40; seed++) {
            Guarded x = new Guarded(1 + seed % 4, 2 + seed % 3);
            Programs.fill(x, seed, 20);
            x.run(20 + seed);
            int flitsOrPackets = 0;
            for (int n = 0; n < 6; n++) {
                for (int c = 0; c < 3; c++) {
                    for (int port = 0; port <= Port.ROW; port++) {
                        flitsOrPackets += x.buffer(n, port, c);
                    }
                }
            }
            Check.holds("packets under way are seen", flitsOrPackets > 0 == x.count(0) > x.count(1));
            Programs.run(x, 8000);
            Check.due("all arrived", x.count(1), x.count(0));
        }
    }

    private static void othersAreZero() {
        Guarded x = new Guarded(2, 3);
        x.operation(5, Programs.STORE, 0, 1, 0);
        x.run(50);
        Check.holds("something is counted", x.count(0) > 0 && x.count(1) > 0 && x.count(2) > 0);
        int[] others = {-1, 3, 4, Integer.MIN_VALUE, Integer.MAX_VALUE};
        for (int what : others) {
            Check.due("count(" + what + ")", x.count(what), 0);
        }
    }
}
