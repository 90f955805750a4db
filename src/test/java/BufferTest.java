/** Promise 8: buffer. */
public final class BufferTest {
    private static final int NORTH = 0;
    private static final int EAST = 1;
    private static final int SOUTH = 2;
    private static final int WEST = 3;
    private static final int OWN = 4;
    private static final int ROW = 5;
    private static final int INBOX = 6;

    public static void main(String[] args) {
        aRequestGoesFirstAlongTheColumnsThenTheRows();
        aPacketStaysInTheRowUntilItsLastFlit();
        stalledPacketsStayInTheInbox();
        buffersHaveLittleRoom();
        noneSuchIsBad();
        Check.end();
    }

    /** Where the one flit of channel 0 is: node * 10 + port, or -1 when it is in no buffer. */
    private static int placeOfFlit(MeshLines x) {
        int place = -1;
        for (int n = 0; n < 6; n++) {
            for (int port = 0; port < 5; port++) {
                if (x.buffer(n, port, 0) == 1) {
                    place = n * 10 + port;
                }
            }
        }
        return place;
    }

    private static void follow(int from, int line, int[] places) {
        MeshLines x = new MeshLines(1, 2);
        x.operation(from, 0, line, 0, 0);
        x.run(1);
        Check.due("in the row", x.buffer(from, ROW, 0), 1);
        Check.due("in no buffer", placeOfFlit(x), -1);
        for (int place : places) {
            x.run(1);
            Check.due("the flit from " + from, placeOfFlit(x), place);
            Check.due("the row", x.buffer(from, ROW, 0), 0);
        }
        x.run(1);
        Check.due("out", placeOfFlit(x), -1);
        Check.due("taken at once", x.buffer(line % 6, INBOX, 0), 0);
        Check.due("a DATA is sent", x.buffer(line % 6, ROW, 2), 1);
    }

    private static void aRequestGoesFirstAlongTheColumnsThenTheRows() {
        follow(0, 0, new int[] {4});
        follow(0, 5, new int[] {4, 13, 23, 50});
        follow(5, 0, new int[] {54, 41, 31, 2});
        follow(2, 3, new int[] {24, 11, 1, 30});
        follow(3, 2, new int[] {34, 43, 53, 22});
        follow(4, 7, new int[] {44, 12});
        follow(1, 4, new int[] {14, 40});
    }

    private static void aPacketStaysInTheRowUntilItsLastFlit() {
        MeshLines x = new MeshLines(2, 3);
        x.operation(0, 0, 0, 0, 0);
        x.run(3);
        Check.due("DATA in the row", x.buffer(0, ROW, 2), 1);
        Check.due("no flit yet", x.buffer(0, OWN, 2), 0);
        x.run(1);
        Check.due("DATA in the row", x.buffer(0, ROW, 2), 1);
        Check.due("the HEAD", x.buffer(0, OWN, 2), 1);
        x.run(1);
        Check.due("DATA in the row", x.buffer(0, ROW, 2), 1);
        Check.due("the second flit, the HEAD is out", x.buffer(0, OWN, 2), 1);
        x.run(1);
        Check.due("the last flit left the row", x.buffer(0, ROW, 2), 0);
        Check.due("the last flit", x.buffer(0, OWN, 2), 1);
        Check.due("not arrived", x.buffer(0, INBOX, 2), 0);
        x.run(1);
        Check.due("out", x.buffer(0, OWN, 2), 0);
        Check.due("taken at once", x.buffer(0, INBOX, 2), 0);
    }

    /** Node 0 waits for node 5's ACK until cycle 49, and node 3's FWDM waits for that. */
    private static void stalledPacketsStayInTheInbox() {
        MeshLines x = new MeshLines(4, 2);
        x.operation(0, 0, 0, 0, 0);
        x.operation(5, 0, 0, 0, 0);
        x.operation(0, 1, 0, 9, 30);
        x.operation(3, 2, 0, 6, 36);
        x.run(42);
        Check.due("FWDM is in the buffer: DATA went first", x.buffer(0, OWN, 1), 1);
        x.run(1);
        Check.due("FWDM waits", x.buffer(0, INBOX, 1), 1);
        x.run(5);
        Check.due("FWDM waits still", x.buffer(0, INBOX, 1), 1);
        x.run(1);
        Check.due("FWDM was taken", x.buffer(0, INBOX, 1), 0);
    }

    private static void buffersHaveLittleRoom() {
        for (int depth = 1; depth <= 4; depth++) {
            int most = 0;
            MeshLines x = new MeshLines(depth, 5);
            Programs.crowd(x);
            for (int i = 0; i < 400; i++) {
                x.run(1);
                most = Math.max(most, Seen.fullestBuffer(x));
                edgesAreEmpty(x);
            }
            Check.due("most flits in a buffer", most, depth);
        }
    }

    private static void edgesAreEmpty(MeshLines x) {
        for (int n = 0; n < 6; n++) {
            for (int c = 0; c < 3; c++) {
                Check.due("a buffer at the edge", x.buffer(n, n < 3 ? NORTH : SOUTH, c), 0);
                Check.holds("a buffer at the edge", n % 3 != 0 || x.buffer(n, WEST, c) == 0);
                Check.holds("a buffer at the edge", n % 3 != 2 || x.buffer(n, EAST, c) == 0);
            }
        }
    }

    private static void noneSuchIsBad() {
        MeshLines x = new MeshLines(2, 3);
        Check.due("buffer(5, 6, 2)", x.buffer(5, 6, 2), 0);
        int[][] none = {
            {-1, 0, 0}, {6, 0, 0}, {0, -1, 0}, {0, 7, 0}, {0, 0, -1}, {0, 0, 3}, {0, 5, 3}, {0, 6, -1},
            {Integer.MAX_VALUE, 0, 0}, {0, Integer.MIN_VALUE, 0}, {0, 0, Integer.MAX_VALUE},
        };
        for (int[] w : none) {
            Check.due("buffer(" + w[0] + ", " + w[1] + ", " + w[2] + ")", x.buffer(w[0], w[1], w[2]), MeshLines.BAD);
        }
    }
}
