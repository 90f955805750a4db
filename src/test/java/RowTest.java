/** Terms, step 1 of a cycle: flits come out of the rows into the buffers at OWN. */
public final class RowTest {
    public static void main(String[] args) {
        nothingComesOutOfAnEmptyRow();
        theNextFlitWaitsForRoomAtOwn();
        withRoomAFlitComesEveryCycle();
        aPacketLeavesTheRowWithItsLastFlit();
        thePacketBehindWaitsForTheWholeFirstOne();
        aPacketOfOneFlitLeavesTheRowAtOnce();
        Check.end();
    }

    private static void nothingComesOutOfAnEmptyRow() {
        Guarded x = new Guarded(1, 2);
        x.operation(0, Programs.LOAD, 0, 0, 50);
        x.run(50);
        for (int n = 0; n < 6; n++) {
            for (int c = 0; c < 3; c++) {
                Check.due("the row", x.buffer(n, Port.ROW, c), 0);
                Check.due("the buffer at OWN", x.buffer(n, Port.OWN, c), 0);
            }
        }
    }

    /** DATA of node 0 to itself is sent in cycle 3. */
    private static Guarded dataToItself(int depth, int flits) {
        Guarded x = new Guarded(depth, flits);
        x.operation(0, Programs.LOAD, 0, 0, 0);
        x.run(3);
        return x;
    }

    /** With DEPTH 1 a flit comes in one cycle and goes out in the next one, where none can come. */
    private static void theNextFlitWaitsForRoomAtOwn() {
        Guarded x = dataToItself(1, 5);
        Port.buffersDue("DEPTH 1", x, 0, Port.OWN, 2, 1, 0, 1, 0, 1, 0, 1, 0, 1, 0, 0);
        CacheLook.due("the last flit went out in cycle 13", x, 0, 0, CacheLook.S, 0, 0, 13);
    }

    private static void withRoomAFlitComesEveryCycle() {
        Guarded x = dataToItself(2, 5);
        Port.buffersDue("DEPTH 2", x, 0, Port.OWN, 2, 1, 1, 1, 1, 1, 0, 0);
        CacheLook.due("the last flit went out in cycle 9", x, 0, 0, CacheLook.S, 0, 0, 9);
    }

    private static void aPacketLeavesTheRowWithItsLastFlit() {
        Port.buffersDue("2 flits", dataToItself(2, 2), 0, Port.ROW, 2, 1, 0, 0);
        Port.buffersDue("5 flits", dataToItself(2, 5), 0, Port.ROW, 2, 1, 1, 1, 1, 0, 0);
        Port.buffersDue("DEPTH 1", dataToItself(1, 2), 0, Port.ROW, 2, 1, 1, 0, 0);
    }

    /** DATA to node 1 is sent in cycle 4 and DATA to node 3 in cycle 5, of five flits each. */
    private static void thePacketBehindWaitsForTheWholeFirstOne() {
        Guarded x = new Guarded(2, 5);
        x.operation(1, Programs.LOAD, 0, 0, 0);
        x.operation(3, Programs.LOAD, 0, 0, 0);
        Port.buffersDue("two packets", x, 0, Port.ROW, 2, 0, 0, 0, 1, 2, 2, 2, 2, 1, 1, 1, 1, 1, 0);
        x.run(2);
        Check.due("node 1 was first", x.cache(1, 0, 3), 11);
        Check.due("node 3 came second", x.cache(3, 0, 3), 16);
    }

    private static void aPacketOfOneFlitLeavesTheRowAtOnce() {
        Guarded x = new Guarded(1, 5);
        x.operation(5, Programs.LOAD, 0, 0, 0);
        Port.buffersDue("GETS", x, 5, Port.ROW, 0, 1, 0, 0);
    }
}
