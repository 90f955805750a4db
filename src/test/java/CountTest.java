/** Promise 10: count. */
public final class CountTest {
    public static void main(String[] args) {
        packetsAndFlitsAreCounted();
        packetsUnderWayAreTheDifference();
        othersAreZero();
        Check.end();
    }

    private static void counts(MeshLines x, int sent, int arrived, int overLinks) {
        Check.due("count(0)", x.count(0), sent);
        Check.due("count(1)", x.count(1), arrived);
        Check.due("count(2)", x.count(2), overLinks);
    }

    /** Node 1 loads line 0 of node 0, with DATA of four flits. */
    private static void packetsAndFlitsAreCounted() {
        MeshLines x = new MeshLines(4, 4);
        x.operation(1, 0, 0, 0, 0);
        x.run(1);
        counts(x, 1, 0, 0);
        x.run(1);
        counts(x, 1, 0, 0);
        x.run(1);
        counts(x, 1, 0, 1);
        x.run(1);
        counts(x, 2, 1, 1);
        x.run(1);
        counts(x, 2, 1, 1);
        for (int i = 2; i <= 5; i++) {
            x.run(1);
            counts(x, 2, 1, i);
        }
        x.run(1);
        counts(x, 2, 2, 5);
        x.run(100);
        counts(x, 2, 2, 5);
    }

    /** A packet that was sent and did not arrive is in a row or has a flit in a buffer or held. */
    private static void packetsUnderWayAreTheDifference() {
        MeshLines x = new MeshLines(2, 2);
        Programs.fill(x, 3, 40);
        for (int i = 0; i < 300; i++) {
            x.run(1);
            boolean isAny = false;
            for (int n = 0; n < 6; n++) {
                for (int c = 0; c < 3; c++) {
                    for (int port = 0; port <= 5; port++) {
                        isAny |= x.buffer(n, port, c) > 0;
                    }
                }
            }
            Check.holds("packets under way are seen", isAny == (x.count(0) > x.count(1)));
        }
        for (int i = 0; i < 150; i++) {
            x.run(100);
        }
        Check.due("all arrived", x.count(1), x.count(0));
    }

    private static void othersAreZero() {
        MeshLines x = new MeshLines(2, 3);
        x.operation(5, 1, 0, 1, 0);
        x.run(50);
        int[] others = {-1, 3, 4, Integer.MIN_VALUE, Integer.MAX_VALUE};
        for (int what : others) {
            Check.due("count(" + what + ")", x.count(what), 0);
        }
    }
}
