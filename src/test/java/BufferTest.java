/** Promise 8: buffer. */
public final class BufferTest {
    private static final int LEAST = Integer.MIN_VALUE;
    private static final int GREATEST = Integer.MAX_VALUE;

    public static void main(String[] args) {
        flitsInABuffer();
        packetsInARow();
        packetsInAnInbox();
        aBufferIsFullWithDepthFlits();
        buffersAtTheEdgeStayEmpty();
        theFirstAndLastOfEverything();
        noSuchNodeIsBad();
        noSuchPortIsBad();
        noSuchChannelIsBad();
        Check.end();
    }

    /**
     * DATA of five flits waits at WEST of node 1 while another packet holds EAST there until cycle
     * 11. The buffer is full then, so that its fifth flit comes when the first one has gone.
     */
    private static void flitsInABuffer() {
        Guarded x = new Guarded(4, 5);
        x.operation(5, Programs.LOAD, 1, 0, 0);
        x.operation(2, Programs.LOAD, 0, 0, 1);
        x.run(7);
        Port.buffersDue("waiting flits", x, 1, Port.WEST, 2, 1, 2, 3, 4, 3, 3, 2, 1, 0);
    }

    private static void packetsInARow() {
        Guarded x = new Guarded(2, 5);
        x.operation(1, Programs.LOAD, 0, 0, 0);
        x.operation(3, Programs.LOAD, 0, 0, 0);
        x.run(3);
        Port.buffersDue("DATA", x, 0, Port.ROW, 2, 1, 2, 2, 2, 2, 1, 1, 1, 1, 1, 0);
    }

    /** Node 0 waits for node 5's ACK until cycle 49, and node 3's FWDM waits for that. */
    private static void packetsInAnInbox() {
        Guarded x = new Guarded(4, 2);
        x.operation(0, Programs.LOAD, 0, 0, 0);
        x.operation(5, Programs.LOAD, 0, 0, 0);
        x.operation(0, Programs.STORE, 0, 9, 30);
        x.operation(3, Programs.SWAP, 0, 6, 36);
        x.run(42);
        Check.due("FWDM is in the buffer: DATA went first", x.buffer(0, Port.OWN, 1), 1);
        Port.buffersDue("FWDM", x, 0, Port.INBOX, 1, 1, 1, 1, 1, 1, 1, 0);
    }

    /** The buffers of the two nodes in the middle, through which most packets go. */
    private static void aBufferIsFullWithDepthFlits() {
        for (int depth = 1; depth <= 4; depth++) {
            int most = 0;
            for (int channel = 0; channel < 3; channel++) {
                for (int port = 0; port < 5; port++) {
                    most = Math.max(most, Programs.fullest(depth, 1, port, channel));
                    most = Math.max(most, Programs.fullest(depth, 4, port, channel));
                }
            }
            Check.due("most flits in a buffer", most, depth);
        }
    }

    private static void buffersAtTheEdgeStayEmpty() {
        for (int[] e : Port.EDGES) {
            for (int channel = 0; channel < 3; channel++) {
                Check.due("a buffer at the edge", Programs.fullest(2, e[0], e[1], channel), 0);
            }
        }
    }

    private static void theFirstAndLastOfEverything() {
        Guarded x = new Guarded(2, 3);
        Check.due("buffer(0, 0, 0)", x.buffer(0, 0, 0), 0);
        Check.due("buffer(5, 6, 2)", x.buffer(5, 6, 2), 0);
        Check.due("buffer(5, 4, 2)", x.buffer(5, 4, 2), 0);
        Check.due("buffer(0, 5, 0)", x.buffer(0, 5, 0), 0);
        x.operation(5, Programs.LOAD, 0, 0, 0);
        x.run(1);
        Check.due("buffer(5, 5, 0)", x.buffer(5, 5, 0), 1);
    }

    private static void noSuchNodeIsBad() {
        Guarded x = new Guarded(2, 3);
        int[] none = {-1, 6, LEAST, GREATEST};
        for (int n : none) {
            Check.due("buffer(" + n + ", 0, 0)", x.buffer(n, 0, 0), MeshLines.BAD);
            Check.due("buffer(" + n + ", 5, 0)", x.buffer(n, 5, 0), MeshLines.BAD);
            Check.due("buffer(" + n + ", 6, 0)", x.buffer(n, 6, 0), MeshLines.BAD);
        }
    }

    private static void noSuchPortIsBad() {
        Guarded x = new Guarded(2, 3);
        int[] none = {-1, 7, 8, LEAST, GREATEST};
        for (int port : none) {
            Check.due("buffer(0, " + port + ", 0)", x.buffer(0, port, 0), MeshLines.BAD);
        }
    }

    private static void noSuchChannelIsBad() {
        Guarded x = new Guarded(2, 3);
        int[] none = {-1, 3, LEAST, GREATEST};
        for (int channel : none) {
            Check.due("buffer(0, 0, " + channel + ")", x.buffer(0, 0, channel), MeshLines.BAD);
            Check.due("buffer(0, 5, " + channel + ")", x.buffer(0, 5, channel), MeshLines.BAD);
            Check.due("buffer(0, 6, " + channel + ")", x.buffer(0, 6, channel), MeshLines.BAD);
        }
    }
}
