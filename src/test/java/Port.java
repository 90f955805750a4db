/** The ports of a node, and the two other numbers that buffer() takes as one. */
final class Port {
    static final int NORTH = 0;
    static final int EAST = 1;
    static final int SOUTH = 2;
    static final int WEST = 3;
    static final int OWN = 4;
    static final int ROW = 5;
    static final int INBOX = 6;

    /** The nodes and ports that look out of the mesh. */
    static final int[][] EDGES = {
        {0, NORTH}, {1, NORTH}, {2, NORTH}, {3, SOUTH}, {4, SOUTH}, {5, SOUTH},
        {0, WEST}, {3, WEST}, {2, EAST}, {5, EAST},
    };

    private Port() {
    }

    /** The packets in a node's rows, of the channels 0, 1 and 2. */
    static void rowsDue(String where, Face x, int n, int... want) {
        for (int c = 0; c < 3; c++) {
            Check.due(where + ": row of node " + n + ", channel " + c, x.buffer(n, ROW, c), want[c]);
        }
    }

    /** The flits or packets at one place, one cycle after the other. */
    static void buffersDue(String where, Face x, int n, int port, int channel, int... want) {
        for (int i = 0; i < want.length; i++) {
            int cycle = x.run(1);
            String call = where + ": buffer(" + n + ", " + port + ", " + channel + ") in cycle " + cycle;
            Check.due(call, x.buffer(n, port, channel), want[i]);
        }
    }

    /** Who holds an output, one cycle after the other. */
    static void heldDue(String where, Face x, int n, int output, int channel, int... want) {
        for (int i = 0; i < want.length; i++) {
            int cycle = x.run(1);
            String call = where + ": held(" + n + ", " + output + ", " + channel + ") in cycle " + cycle;
            Check.due(call, x.held(n, output, channel), want[i]);
        }
    }
}
