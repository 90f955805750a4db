/** Terms: lines, their values and homes, and the messages with their channels and flits. */
public final class MessageTest {
    private static final int LOAD = Programs.LOAD;
    private static final int STORE = Programs.STORE;

    public static void main(String[] args) {
        linesAreZeroAtFirst();
        valuesAreWholeInts();
        homesBeginAgainBehindLineFive();
        requestsAreOfChannelZero();
        forwardsAreOfChannelOne();
        responsesAreOfChannelTwo();
        onlyPutmAndDataHaveFlitsFlits();
        Check.end();
    }

    private static void linesAreZeroAtFirst() {
        for (int n = 0; n < 6; n++) {
            for (int l = 0; l < 8; l++) {
                Guarded x = new Guarded(4, 2);
                x.operation(n, Programs.SWAP, l, 5, 0);
                x.run(40);
                Check.due("done", x.done(n), 1);
                Check.due("the first value", x.result(n, 0), 0);
            }
        }
    }

    /** The greatest and least values through PUTM, DATA of a home and DATA of an owner. */
    private static void valuesAreWholeInts() {
        int[] values = {Integer.MIN_VALUE, -1, Integer.MAX_VALUE};
        for (int value : values) {
            Guarded x = new Guarded(1, 5);
            x.operation(4, STORE, 1, value, 0);
            x.operation(4, STORE, 3, value - 1, 0);
            x.operation(4, STORE, 5, value + 1, 0);
            Programs.run(x, 200);
            Check.due("PUTM brought it home", x.home(1, 1), value);
            x.operation(2, LOAD, 1, 0, 0);
            x.operation(0, LOAD, 3, 0, 0);
            Programs.run(x, 200);
            Check.due("DATA of the home", x.result(2, 0), value);
            Check.due("DATA of the owner", x.result(0, 0), value - 1);
            Check.due("DATA of the owner to the home", x.home(3, 1), value - 1);
            Check.due("the owner keeps it", x.cache(4, 3, 1), value - 1);
        }
    }

    /** Of line l % 6 is the home: a node's requests to itself go over no link. */
    private static void homesBeginAgainBehindLineFive() {
        int[] homes = {0, 1, 2, 3, 4, 5, 0, 1};
        for (int l = 0; l < 8; l++) {
            for (int n = 0; n < 6; n++) {
                Guarded x = new Guarded(4, 2);
                x.operation(n, STORE, l, 1, 0);
                x.run(40);
                Check.due("done", x.done(n), 1);
                Check.due("the owner", x.home(l, 2), n + 1);
                int links = Math.abs(n % 3 - homes[l] % 3) + Math.abs(n / 3 - homes[l] / 3);
                Check.due("flits over links for line " + l, x.count(2), 3 * links);
            }
        }
    }

    /** GETS, GETM, PUTS and PUTM stand in the row of channel 0 in the cycle in which they are sent. */
    private static void requestsAreOfChannelZero() {
        Guarded x = new Guarded(4, 2);
        x.operation(0, LOAD, 0, 0, 0);
        x.operation(0, STORE, 6, 1, 0);
        x.operation(0, STORE, 0, 1, 0);
        x.run(1);
        Check.due("GETS", x.cache(0, 0, 0), CacheLook.ISD);
        Port.rowsDue("GETS", x, 0, 1, 0, 0);
        x.run(6);
        Check.due("GETM", x.cache(0, 6, 0), CacheLook.IMAD);
        Port.rowsDue("GETM", x, 0, 1, 0, 0);
        x.run(6);
        Check.due("GETM from S", x.cache(0, 0, 0), CacheLook.SMAD);
        Port.rowsDue("GETM from S", x, 0, 1, 0, 0);
        x.run(6);
        x.operation(0, LOAD, 2, 0, 0);
        x.run(1);
        Check.due("PUTM", x.cache(0, 6, 0), CacheLook.MIA);
        Port.rowsDue("PUTM", x, 0, 1, 0, 0);
        x.run(50);
        x.operation(0, LOAD, 0, 0, 0);
        x.operation(0, LOAD, 4, 0, 0);
        x.run(2);
        Check.due("PUTS", x.cache(0, 2, 0), CacheLook.SIA);
        Port.rowsDue("PUTS", x, 0, 1, 0, 0);
    }

    /** INV, FWDS, FWDM and DONE of node 0, the home of line 0. */
    private static void forwardsAreOfChannelOne() {
        Guarded x = shared();
        x.operation(1, STORE, 0, 9, 0);
        x.run(4);
        Check.due("GETM was taken", x.home(0, 2), 2);
        Port.rowsDue("INV besides DATA", x, 0, 0, 1, 1);
        x.run(46);
        x.operation(3, LOAD, 0, 0, 0);
        x.run(4);
        Check.due("GETS was taken", x.home(0, 0), HomeLook.SD);
        Port.rowsDue("FWDS", x, 0, 0, 1, 0);
        x.run(46);
        x.operation(3, STORE, 0, 8, 0);
        x.run(50);
        x.operation(1, STORE, 0, 7, 0);
        x.run(4);
        Check.due("GETM was taken in M", x.home(0, 2), 2);
        Port.rowsDue("FWDM", x, 0, 0, 1, 0);
        x.run(46);
        x.operation(1, LOAD, 2, 0, 0);
        x.run(50);
        x.operation(1, LOAD, 4, 0, 0);
        // PUTM: sent in the next cycle, its second flit enters two later, a link, and out.
        x.run(5);
        HomeLook.due("PUTM was taken", x, 0, HomeLook.I, 7, 0, 0);
        Port.rowsDue("DONE", x, 0, 0, 1, 0);
    }

    /** ACK and both DATA of the owner; DATA of a home is seen besides INV above. */
    private static void responsesAreOfChannelTwo() {
        Guarded x = shared();
        x.operation(1, STORE, 0, 9, 0);
        // INV enters one cycle behind GETM; two flits of DATA go first; two links, and out.
        x.run(10);
        Check.due("INV was taken", x.cache(2, 0, 0), CacheLook.I);
        Port.rowsDue("ACK", x, 2, 0, 0, 1);
        x.run(40);
        x.operation(3, LOAD, 0, 0, 0);
        x.run(7);
        Check.due("FWDS was taken", x.cache(1, 0, 0), CacheLook.S);
        Port.rowsDue("DATA to the asker and to the home", x, 1, 0, 0, 2);
    }

    /** Nodes 1 and 2 share line 0; it is cycle 50. */
    private static Guarded shared() {
        Guarded x = new Guarded(4, 2);
        x.operation(1, LOAD, 0, 0, 0);
        x.operation(2, LOAD, 0, 0, 0);
        x.run(50);
        HomeLook.due("shared", x, 0, HomeLook.S, 0, 0, 6);
        return x;
    }

    /** How many flits an operation with all that comes of it sends over links. */
    private static int flitsOf(Guarded x, int n, int kind, int line) {
        int before = x.count(2);
        int operations = x.done(n);
        x.operation(n, kind, line, 7, 0);
        x.run(100);
        Check.due("done(" + n + ")", x.done(n), operations + 1);
        Check.due("all arrived", x.count(1), x.count(0));
        return x.count(2) - before;
    }

    private static void onlyPutmAndDataHaveFlitsFlits() {
        for (int f = 2; f <= 5; f++) {
            Guarded x = new Guarded(2, f);
            Check.due("GETS, DATA over 1 link", flitsOf(x, 1, LOAD, 0), 1 + f);
            Check.due("GETS, DATA over 2 links", flitsOf(x, 2, LOAD, 0), 2 + 2 * f);
            Check.due("GETM 1, DATA 1, INV 2, ACK 1", flitsOf(x, 1, STORE, 0), 4 + f);
            Check.due("FWDS 1, DATA 1, DATA 1", flitsOf(x, 0, LOAD, 0), 1 + 2 * f);
            Check.due("GETM 2, DATA 2, INV 0 and 1, ACK 2 and 1", flitsOf(x, 2, STORE, 0), 6 + 2 * f);
            Check.due("GETM 2, FWDM 2, DATA 2", flitsOf(x, 4, STORE, 0), 4 + 2 * f);
            Check.due("all within node 4", flitsOf(x, 4, LOAD, 4), 0);
            Check.due("PUTM 2, DONE 2, GETS 2, DATA 2", flitsOf(x, 4, LOAD, 2), 4 + 4 * f);
            Check.due("PUTS 0, DONE 0, GETS 2, DATA 2", flitsOf(x, 4, LOAD, 0), 2 + 2 * f);
            Check.due("PUTS 2, DONE 2, GETS 0, DATA 0", flitsOf(x, 4, LOAD, 4), 4);
        }
    }
}
