/** Promise 9: held. */
public final class HeldTest {
    public static void main(String[] args) {
        anOutputIsHeldUntilTheLastFlit();
        packetsOfOneFlitHoldNothing();
        linksAreHeldFromThePortOfTheirPacket();
        noneSuchIsBad();
        Check.end();
    }

    /** DATA of node 0 to itself: the HEAD goes out in cycle 5, the last of three flits in cycle 7. */
    private static void anOutputIsHeldUntilTheLastFlit() {
        MeshLines x = new MeshLines(2, 3);
        x.operation(0, 0, 0, 0, 0);
        int[] want = {0, 0, 0, 0, 5, 5, 0, 0};
        for (int i = 0; i < want.length; i++) {
            x.run(1);
            Check.due("held(0, 4, 2) in cycle " + (i + 1), x.held(0, 4, 2), want[i]);
            Check.due("held(0, 4, 1)", x.held(0, 4, 1), 0);
            Check.due("held(0, 1, 2)", x.held(0, 1, 2), 0);
        }
    }

    private static void packetsOfOneFlitHoldNothing() {
        MeshLines x = new MeshLines(2, 3);
        x.operation(5, 0, 0, 0, 0);
        for (int i = 0; i < 40; i++) {
            x.run(1);
            for (int n = 0; n < 6; n++) {
                for (int output = 0; output < 5; output++) {
                    Check.due("held of channel 0", x.held(n, output, 0), 0);
                    Check.due("held of channel 1", x.held(n, output, 1), 0);
                }
            }
        }
        Check.due("done(5)", x.done(5), 1);
    }

    /** DATA of node 0 to node 4: from OWN to EAST, at node 1 from WEST to SOUTH, at 4 from NORTH. */
    private static void linksAreHeldFromThePortOfTheirPacket() {
        MeshLines x = new MeshLines(4, 2);
        x.operation(4, 0, 0, 0, 0);
        // GETS: sent in 1, in OWN of 4 in 2, at 3 in 3, at 0 in 4, out in 5; DATA enters in 6.
        x.run(6);
        int[][] outputs = {{0, 1, 5}, {1, 2, 4}, {4, 4, 1}};
        for (int[] now : outputs) {
            x.run(1);
            for (int[] o : outputs) {
                int want = o == now ? o[2] : 0;
                Check.due("held(" + o[0] + ", " + o[1] + ", 2)", x.held(o[0], o[1], 2), want);
            }
        }
        x.run(1);
        Check.due("held(4, 4, 2)", x.held(4, 4, 2), 0);
        Check.due("done(4)", x.done(4), 1);
    }

    private static void noneSuchIsBad() {
        MeshLines x = new MeshLines(2, 3);
        Check.due("held(5, 4, 2)", x.held(5, 4, 2), 0);
        Check.due("an output at the edge", x.held(0, 0, 0), 0);
        int[][] none = {
            {-1, 0, 0}, {6, 0, 0}, {0, -1, 0}, {0, 5, 0}, {0, 6, 0}, {0, 0, -1}, {0, 0, 3},
            {Integer.MIN_VALUE, 0, 0}, {0, Integer.MAX_VALUE, 0}, {0, 0, Integer.MIN_VALUE},
        };
        for (int[] w : none) {
            Check.due("held(" + w[0] + ", " + w[1] + ", " + w[2] + ")", x.held(w[0], w[1], w[2]), MeshLines.BAD);
        }
    }
}
