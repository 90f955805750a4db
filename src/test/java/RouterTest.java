/** Terms, step 2 of a cycle: which flit goes at an output, and which one waits. */
public final class RouterTest {
    private static final int LOAD = Programs.LOAD;
    private static final int STORE = Programs.STORE;

    public static void main(String[] args) {
        thePortThatWentLastIsFourAtFirst();
        theTurnGoesOnFromFourToZero();
        thePortThatWentLastIsAtTheEnd();
        thePortThatWentLastGoesAgainWhenItIsAlone();
        aPortWhoseHeadJustCameKeepsItsTurn();
        oneFlitGoesAnOutputAndCycle();
        aFlitThatJustCameLeavesTheOutputToTheNextChannel();
        anEmptyBufferThatHoldsLeavesTheOutputToTheNextChannel();
        anEmptyBufferThatHoldsKeepsOthersOfItsChannelOut();
        aFullBufferEastwardsHasRoomOneCycleLater();
        aFullBufferWestwardsHasRoomInTheSameCycle();
        aFullBufferLeavesTheOutputToTheNextChannel();
        aBufferGivesToOneOutputAfterTheOtherInOneCycle();
        aFlitGoesOverOneLinkACycle();
        everyWayIsGone();
        Check.end();
    }

    /** The heads of nodes 1 (NORTH), 5 (EAST) and 3 (WEST) are at node 4 in cycle 3. */
    private static void thePortThatWentLastIsFourAtFirst() {
        Guarded x = new Guarded(4, 2);
        x.operation(3, LOAD, 4, 0, 0);
        x.operation(5, LOAD, 4, 0, 0);
        x.operation(1, LOAD, 4, 0, 0);
        int[] sharers = {0, 0, 0, 2, 2 + 32, 2 + 32 + 8};
        for (int want : sharers) {
            int cycle = x.run(1);
            Check.due("sharers in cycle " + cycle, x.home(4, 3), want);
        }
    }

    /** Node 3 (WEST, 3) went last; then node 4 (OWN, 4) and node 1 (NORTH, 0) come at once. */
    private static void theTurnGoesOnFromFourToZero() {
        Guarded x = new Guarded(4, 2);
        x.operation(3, LOAD, 4, 0, 0);
        x.run(30);
        x.operation(1, STORE, 4, 1, 0);
        x.operation(3, STORE, 4, 3, 0);
        x.operation(4, STORE, 4, 4, 1);
        x.run(3);
        Check.due("all three heads are there", heads(x, 4), 3);
        x.run(1);
        Check.due("OWN, 4, is next to 3", x.home(4, 2), 4 + 1);
        x.run(1);
        Check.due("NORTH, 0, is next to 4", x.home(4, 2), 1 + 1);
        Check.due("WEST, 3, waits still", x.buffer(4, Port.WEST, 0), 1);
    }

    private static int heads(Guarded x, int n) {
        int sum = 0;
        for (int port = 0; port < 5; port++) {
            sum += x.buffer(n, port, 0);
        }
        return sum;
    }

    /** Node 1 (NORTH, 0) went last: node 3 (WEST, 3) is before it though its number is greater. */
    private static void thePortThatWentLastIsAtTheEnd() {
        Guarded x = new Guarded(4, 2);
        x.operation(1, LOAD, 4, 0, 0);
        x.run(30);
        x.operation(1, STORE, 4, 1, 0);
        x.operation(3, STORE, 4, 3, 0);
        x.run(3);
        Check.due("both heads are there", heads(x, 4), 2);
        Check.due("no owner", x.home(4, 2), 0);
        x.run(1);
        Check.due("WEST", x.home(4, 2), 3 + 1);
        x.run(1);
        Check.due("NORTH", x.home(4, 2), 1 + 1);
    }

    private static void thePortThatWentLastGoesAgainWhenItIsAlone() {
        Guarded x = new Guarded(4, 2);
        x.operation(1, LOAD, 4, 0, 0);
        x.run(30);
        x.operation(1, STORE, 4, 1, 0);
        x.run(3);
        Check.due("the head is there", x.buffer(4, Port.NORTH, 0), 1);
        x.run(1);
        Check.due("it went", x.buffer(4, Port.NORTH, 0), 0);
        Check.due("the owner", x.home(4, 2), 1 + 1);
    }

    /**
     * Node 1's head comes to NORTH of node 4 in cycle 4, before node 4 moves flits: the turn is
     * NORTH's, so that node 4's own head, there since cycle 3, goes behind it.
     */
    private static void aPortWhoseHeadJustCameKeepsItsTurn() {
        Guarded x = new Guarded(4, 2);
        x.operation(1, LOAD, 4, 0, 1);
        x.operation(4, LOAD, 4, 0, 1);
        Port.buffersDue("the own head", x, 4, Port.OWN, 0, 0, 0, 1, 1, 1, 0);
        Guarded y = new Guarded(4, 2);
        y.operation(4, LOAD, 4, 0, 1);
        Port.buffersDue("the own head alone", y, 4, Port.OWN, 0, 0, 0, 1, 0);
    }

    /** Nodes 1 and 2 share line 0; node 1's GETM comes home in cycle 44: DATA and INV go EAST. */
    private static Guarded dataAndInv(int depth) {
        Guarded x = new Guarded(depth, 5);
        x.operation(1, LOAD, 0, 0, 0);
        x.operation(2, LOAD, 0, 0, 0);
        x.run(40);
        x.operation(1, STORE, 0, 9, 0);
        x.run(4);
        Port.rowsDue("DATA and INV are sent", x, 0, 0, 1, 1);
        return x;
    }

    /** The five flits of channel 2 go in the cycles 46 to 50, INV of channel 1 goes behind them. */
    private static void oneFlitGoesAnOutputAndCycle() {
        Port.buffersDue("INV", dataAndInv(4), 0, Port.OWN, 1, 1, 1, 1, 1, 1, 1, 0);
        Port.buffersDue("DATA", dataAndInv(4), 1, Port.WEST, 2, 0, 1, 1, 1, 1, 1, 0);
    }

    /** With DEPTH 1 the second flit of DATA comes to OWN in cycle 47: INV goes then. */
    private static void aFlitThatJustCameLeavesTheOutputToTheNextChannel() {
        Port.buffersDue("INV", dataAndInv(1), 0, Port.OWN, 1, 1, 1, 0);
        Port.buffersDue("DATA", dataAndInv(1), 0, Port.OWN, 2, 1, 0, 1, 0, 1, 0);
    }

    /**
     * DATA of node 2 to node 0 goes through node 1 with gaps, DEPTH being 1: its three flits go
     * WEST there in the cycles 8, 10 and 12, and the buffer at EAST is empty between them.
     */
    private static Guarded dataWithGaps() {
        Guarded x = new Guarded(1, 3);
        x.operation(0, LOAD, 2, 0, 0);
        return x;
    }

    private static void anEmptyBufferThatHoldsLeavesTheOutputToTheNextChannel() {
        Guarded x = dataWithGaps();
        x.operation(1, LOAD, 0, 0, 6);
        x.run(7);
        Port.buffersDue("GETS goes in the gap of cycle 9", x, 1, Port.OWN, 0, 1, 0);
        Check.due("the output is held all the same", x.held(1, Port.WEST, 2), Port.EAST + 1);
        Guarded y = dataWithGaps();
        y.operation(1, LOAD, 0, 0, 7);
        y.run(8);
        Port.buffersDue("GETS waits for the gap of cycle 11", y, 1, Port.OWN, 0, 1, 1, 0);
    }

    /** DATA of node 1 to node 3 is at OWN from cycle 8 on, and wants to go WEST too. */
    private static void anEmptyBufferThatHoldsKeepsOthersOfItsChannelOut() {
        Guarded x = dataWithGaps();
        x.operation(3, LOAD, 1, 0, 2);
        x.run(7);
        Port.buffersDue("DATA waits", x, 1, Port.OWN, 2, 1, 1, 1, 1, 1, 0);
        Guarded y = dataWithGaps();
        y.operation(3, LOAD, 1, 0, 2);
        y.run(7);
        int east = Port.EAST + 1;
        Port.heldDue("held", y, 1, Port.WEST, 2, east, east, east, east, 0, Port.OWN + 1);
    }

    /**
     * DATA of node 1 to node 5 goes EAST until cycle 15, and DATA of node 0 to node 2 waits for
     * that at node 1, its next flit at node 0. In cycle 16 node 1 moves before node 2 makes room
     * for it, and in cycle 17 node 0 before node 1.
     */
    private static void aFullBufferEastwardsHasRoomOneCycleLater() {
        Guarded x = new Guarded(1, 5);
        x.operation(5, LOAD, 1, 0, 0);
        x.operation(2, LOAD, 0, 0, 1);
        x.run(7);
        Port.buffersDue("the second flit", x, 0, Port.OWN, 2, 0, 1, 1, 1, 1, 1, 1, 1, 1, 1, 0, 1);
        Check.due("DATA of node 0 holds now", x.held(1, Port.EAST, 2), Port.WEST + 1);
    }

    /** The same from node 1 to node 3 and from node 2 to node 0: node 1 makes room before node 2. */
    private static void aFullBufferWestwardsHasRoomInTheSameCycle() {
        Guarded x = new Guarded(1, 5);
        x.operation(3, LOAD, 1, 0, 0);
        x.operation(0, LOAD, 2, 0, 1);
        x.run(7);
        Port.buffersDue("the second flit", x, 2, Port.OWN, 2, 0, 1, 1, 1, 1, 1, 1, 1, 0, 1);
        Check.due("DATA of node 2 holds now", x.held(1, Port.WEST, 2), Port.EAST + 1);
    }

    /** As eastwards: while DATA of node 0 is shut out, its GETS of line 1 passes it. */
    private static void aFullBufferLeavesTheOutputToTheNextChannel() {
        Guarded x = new Guarded(1, 5);
        x.operation(5, LOAD, 1, 0, 0);
        x.operation(2, LOAD, 0, 0, 1);
        x.operation(0, LOAD, 1, 0, 9);
        x.run(10);
        Port.buffersDue("GETS", x, 0, Port.OWN, 0, 1, 0);
        Check.due("DATA waits", x.buffer(0, Port.OWN, 2), 1);
        Check.due("the buffer that it waits for is full", x.buffer(1, Port.WEST, 2), 1);
    }

    /**
     * Nodes 1, 3 and 4 share line 0, and node 5's GETM is taken in cycle 66: DATA goes EAST until
     * cycle 72, with INV to node 1 (EAST), 3 (SOUTH) and 4 (EAST) behind one another. In cycle 73
     * the first one goes EAST and then the second one SOUTH; the third one waits for EAST.
     */
    private static void aBufferGivesToOneOutputAfterTheOtherInOneCycle() {
        Guarded x = new Guarded(4, 5);
        x.operation(1, LOAD, 0, 0, 0);
        x.operation(3, LOAD, 0, 0, 0);
        x.operation(4, LOAD, 0, 0, 0);
        x.run(60);
        x.operation(5, STORE, 0, 9, 0);
        x.run(6);
        Port.rowsDue("DATA and three INVs", x, 0, 0, 3, 1);
        Port.buffersDue("INVs", x, 0, Port.OWN, 1, 1, 2, 3, 3, 3, 3, 1, 0);
    }

    /** Eastwards node 1 moves behind node 0 and could pass the flit on at once. */
    private static void aFlitGoesOverOneLinkACycle() {
        Guarded x = new Guarded(4, 2);
        x.operation(3, LOAD, 5, 0, 0);
        x.run(2);
        for (int links = 1; links <= 2; links++) {
            x.run(1);
            Check.due("links", x.count(2), links);
            Check.due("the flit", x.buffer(3 + links, Port.WEST, 0), 1);
        }
        x.run(1);
        Check.due("out", x.count(1), 1);
        Check.due("links", x.count(2), 2);
    }

    /** Where the one flit of channel 0 is, node * 10 + port, in the cycles 2, 3, .. */
    private static void follow(int from, int line, int... places) {
        for (int i = 0; i < places.length; i++) {
            Guarded x = new Guarded(1, 2);
            x.operation(from, LOAD, line, 0, 0);
            x.run(2 + i);
            for (int n = 0; n < 6; n++) {
                for (int port = 0; port < 5; port++) {
                    int want = n * 10 + port == places[i] ? 1 : 0;
                    Check.due("the flit of node " + from + " for line " + line, x.buffer(n, port, 0), want);
                }
            }
        }
        Guarded x = new Guarded(1, 2);
        x.operation(from, LOAD, line, 0, 0);
        x.run(2 + places.length);
        Check.due("arrived", x.count(1), 1);
        Check.due("DATA is sent", x.buffer(line % 6, Port.ROW, 2), 1);
    }

    /** Columns come before rows; a flit that goes EAST is at WEST of the next node. */
    private static void everyWayIsGone() {
        follow(0, 0, 4);
        follow(5, 5, 54);
        follow(0, 1, 4, 13);
        follow(0, 2, 4, 13, 23);
        follow(5, 4, 54, 41);
        follow(5, 3, 54, 41, 31);
        follow(1, 4, 14, 40);
        follow(4, 7, 44, 12);
        follow(0, 5, 4, 13, 23, 50);
        follow(5, 0, 54, 41, 31, 2);
        follow(2, 3, 24, 11, 1, 30);
        follow(3, 2, 34, 43, 53, 22);
        follow(1, 3, 14, 1, 30);
        follow(4, 2, 44, 53, 22);
    }
}
