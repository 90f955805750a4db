/** Promise 9: held. */
public final class HeldTest {
    private static final int LEAST = Integer.MIN_VALUE;
    private static final int GREATEST = Integer.MAX_VALUE;

    public static void main(String[] args) {
        noneHoldsAtFirst();
        anOutputIsHeldUntilTheLastFlit();
        otherOutputsAndChannelsAreFree();
        putmHoldsAnOutputOfChannelZero();
        packetsOfOneFlitHoldNothing();
        linksAreHeldFromThePortOfTheirPacket();
        theLastPortIsFive();
        theFirstPortIsOne();
        outputsAtTheEdgeAreNeverHeld();
        noSuchNodeIsBad();
        noSuchOutputIsBad();
        noSuchChannelIsBad();
        Check.end();
    }

    private static void noneHoldsAtFirst() {
        Guarded x = new Guarded(2, 3);
        Check.due("held(0, 0, 0)", x.held(0, 0, 0), 0);
        Check.due("held(5, 4, 2)", x.held(5, 4, 2), 0);
    }

    /** DATA of node 0 to itself: the HEAD goes out in cycle 5, the last flit FLITS - 1 later. */
    private static Guarded dataToItself(int flits) {
        Guarded x = new Guarded(2, flits);
        x.operation(0, Programs.LOAD, 0, 0, 0);
        return x;
    }

    private static void anOutputIsHeldUntilTheLastFlit() {
        Port.heldDue("2 flits", dataToItself(2), 0, Port.OWN, 2, 0, 0, 0, 0, 5, 0, 0);
        Port.heldDue("3 flits", dataToItself(3), 0, Port.OWN, 2, 0, 0, 0, 0, 5, 5, 0, 0);
        Port.heldDue("5 flits", dataToItself(5), 0, Port.OWN, 2, 0, 0, 0, 0, 5, 5, 5, 5, 0, 0);
    }

    private static void otherOutputsAndChannelsAreFree() {
        Guarded x = dataToItself(3);
        x.run(5);
        for (int n = 0; n < 6; n++) {
            for (int output = 0; output < 5; output++) {
                for (int channel = 0; channel < 3; channel++) {
                    boolean isIt = n == 0 && output == Port.OWN && channel == 2;
                    Check.due("held", x.held(n, output, channel), isIt ? 5 : 0);
                }
            }
        }
    }

    /** Node 0 sends PUTM of its own line 0 in cycle 15; its three flits go out in 17, 18 and 19. */
    private static void putmHoldsAnOutputOfChannelZero() {
        Guarded x = new Guarded(2, 3);
        x.operation(0, Programs.STORE, 0, 1, 0);
        x.operation(0, Programs.STORE, 6, 2, 0);
        x.operation(0, Programs.LOAD, 2, 0, 0);
        x.run(15);
        Check.due("PUTM is sent", x.cache(0, 0, 0), CacheLook.MIA);
        Port.heldDue("PUTM", x, 0, Port.OWN, 0, 0, 5, 5, 0, 0);
    }

    /** GETS of node 5 goes through nodes 4 and 3 to node 0. */
    private static void packetsOfOneFlitHoldNothing() {
        int[][] outputs = {{5, Port.WEST}, {4, Port.WEST}, {3, Port.NORTH}, {0, Port.OWN}};
        for (int[] o : outputs) {
            Guarded x = new Guarded(2, 3);
            x.operation(5, Programs.LOAD, 0, 0, 0);
            Port.heldDue("GETS", x, o[0], o[1], 0, 0, 0, 0, 0, 0, 0, 0);
            Check.due("GETS arrived", x.count(1), 1);
        }
    }

    /** DATA of node 0 to node 4: from OWN to EAST, at node 1 from WEST to SOUTH, at 4 from NORTH. */
    private static void linksAreHeldFromThePortOfTheirPacket() {
        Guarded x = new Guarded(4, 2);
        x.operation(4, Programs.LOAD, 0, 0, 0);
        // GETS: sent in 1, in OWN of 4 in 2, at 3 in 3, at 0 in 4, out in 5; DATA enters in 6.
        x.run(6);
        int[][] outputs = {{0, Port.EAST, Port.OWN}, {1, Port.SOUTH, Port.WEST}, {4, Port.OWN, Port.NORTH}};
        for (int[] now : outputs) {
            x.run(1);
            for (int[] o : outputs) {
                int want = o == now ? o[2] + 1 : 0;
                Check.due("held(" + o[0] + ", " + o[1] + ", 2)", x.held(o[0], o[1], 2), want);
            }
        }
        x.run(1);
        Check.due("held(4, 4, 2)", x.held(4, 4, 2), 0);
        Check.due("done(4)", x.done(4), 1);
    }

    private static void theLastPortIsFive() {
        Guarded x = dataToItself(2);
        x.run(5);
        Check.due("OWN", x.held(0, Port.OWN, 2), Port.OWN + 1);
    }

    /** DATA of node 1 to node 4 comes from NORTH there. */
    private static void theFirstPortIsOne() {
        Guarded x = new Guarded(4, 2);
        x.operation(4, Programs.LOAD, 1, 0, 0);
        x.run(7);
        Check.due("NORTH", x.held(4, Port.OWN, 2), Port.NORTH + 1);
    }

    private static void outputsAtTheEdgeAreNeverHeld() {
        for (int[] e : Port.EDGES) {
            Guarded x = Programs.crowd(2, 5);
            while (x.callsLeft() >= 3) {
                x.run(3);
                Check.due("an output at the edge", x.held(e[0], e[1], 0), 0);
                Check.due("an output at the edge", x.held(e[0], e[1], 2), 0);
            }
        }
    }

    private static void noSuchNodeIsBad() {
        Guarded x = new Guarded(2, 3);
        int[] none = {-1, 6, LEAST, GREATEST};
        for (int n : none) {
            Check.due("held(" + n + ", 0, 0)", x.held(n, 0, 0), MeshLines.BAD);
        }
    }

    /** The row and the inbox, 5 and 6 of buffer(), are no outputs. */
    private static void noSuchOutputIsBad() {
        Guarded x = new Guarded(2, 3);
        int[] none = {-1, 5, 6, LEAST, GREATEST};
        for (int output : none) {
            Check.due("held(0, " + output + ", 0)", x.held(0, output, 0), MeshLines.BAD);
        }
    }

    private static void noSuchChannelIsBad() {
        Guarded x = new Guarded(2, 3);
        int[] none = {-1, 3, LEAST, GREATEST};
        for (int channel : none) {
            Check.due("held(0, 0, " + channel + ")", x.held(0, 0, channel), MeshLines.BAD);
        }
    }
}
