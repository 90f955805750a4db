/** Terms, step 3 of a cycle: which packet of an inbox is taken, and which ones stay. */
public final class InboxTest {
    private static final int LOAD = Programs.LOAD;
    private static final int STORE = Programs.STORE;

    public static void main(String[] args) {
        anEmptyInboxGivesNothing();
        aPacketThatDoesNotStallIsTakenAtOnce();
        aStalledPacketStays();
        aStalledPacketLetsOtherLinesPass();
        aPacketBehindOneOfItsLineWaitsThoughItDoesNotStall();
        itWaitsThoughAStalledOneOfAnotherLineStandsBetween();
        onePacketOfAChannelIsTakenACycle();
        channelTwoIsTakenBeforeChannelZero();
        channelTwoIsTakenBeforeChannelOne();
        Check.end();
    }

    private static void anEmptyInboxGivesNothing() {
        Guarded x = new Guarded(1, 2);
        x.run(100);
        for (int n = 0; n < 6; n++) {
            for (int c = 0; c < 3; c++) {
                Check.due("the inbox", x.buffer(n, Port.INBOX, c), 0);
            }
        }
        Check.due("nothing is sent", x.count(0), 0);
    }

    private static void aPacketThatDoesNotStallIsTakenAtOnce() {
        Guarded x = new Guarded(4, 2);
        x.operation(1, LOAD, 0, 0, 0);
        x.run(4);
        Check.due("GETS arrived", x.count(1), 1);
        Check.due("the inbox", x.buffer(0, Port.INBOX, 0), 0);
        Check.due("the home", x.home(0, 0), HomeLook.S);
    }

    /** Node 3's GETM comes in cycle 39. */
    private static void aStalledPacketStays() {
        Guarded x = Scenes.longSd();
        x.operation(3, STORE, 0, 8, 5);
        x.run(8);
        Port.buffersDue("GETM", x, 0, Port.INBOX, 0, 1, 1, 1, 1, 1, 0);
        HomeLook.due("taken in cycle 44", x, 0, HomeLook.M, 7, 3 + 1, 0);
    }

    /** Node 1's GETS of line 6 comes in cycle 40 and stands behind node 3's GETM of line 0. */
    private static void aStalledPacketLetsOtherLinesPass() {
        Guarded x = Scenes.longSd();
        x.operation(3, STORE, 0, 8, 5);
        x.operation(1, LOAD, 6, 0, 6);
        x.run(9);
        HomeLook.due("not yet there", x, 6, HomeLook.I, 0, 0, 0);
        x.run(1);
        HomeLook.due("taken", x, 6, HomeLook.S, 0, 0, 2);
        HomeLook.due("SD still", x, 0, HomeLook.SD, 0, 0, 5);
        Check.due("GETM stays", x.buffer(0, Port.INBOX, 0), 1);
        x.run(4);
        HomeLook.due("GETM is taken", x, 0, HomeLook.M, 7, 3 + 1, 0);
    }

    /** Node 3's GETM stalls from cycle 33 on, and node 0's PUTS comes behind it in cycle 39. */
    private static void aPacketBehindOneOfItsLineWaitsThoughItDoesNotStall() {
        Guarded x = Scenes.bothLetGo();
        x.operation(3, STORE, 0, 8, 27);
        x.run(38);
        Check.due("GETM is there", x.buffer(0, Port.INBOX, 0), 1);
        x.run(1);
        Check.due("PUTS came behind it", x.buffer(0, Port.INBOX, 0), 2);
        HomeLook.due("PUTS is not taken", x, 0, HomeLook.SD, 0, 0, 1);
        x.run(1);
        Check.due("PUTS stays", x.buffer(0, Port.INBOX, 0), 1);
        HomeLook.due("DATA and GETM are taken", x, 0, HomeLook.M, 7, 3 + 1, 0);
        int sent = x.count(0);
        x.run(1);
        Check.due("PUTS is taken", x.buffer(0, Port.INBOX, 0), 0);
        Check.due("DONE is sent", x.count(0), sent + 1);
        HomeLook.due("PUTS changes nothing in M", x, 0, HomeLook.M, 7, 3 + 1, 0);
    }

    /**
     * The lines 6 and 0 of node 0 are in SD, and GETS of node 5 for line 6 and GETS of node 1 for
     * line 0 stall. Node 3's PUTS of line 6 comes behind both in cycle 35.
     */
    private static void itWaitsThoughAStalledOneOfAnotherLineStandsBetween() {
        Guarded x = new Guarded(1, 5);
        x.operation(3, STORE, 6, 30, 0);
        x.operation(3, STORE, 0, 31, 0);
        x.operation(3, LOAD, 2, 0, 0);
        x.operation(4, LOAD, 6, 0, 0);
        x.operation(5, LOAD, 6, 0, 0);
        x.operation(1, LOAD, 0, 0, 16);
        x.operation(2, LOAD, 0, 0, 15);
        x.run(34);
        Check.due("both stall", x.buffer(0, Port.INBOX, 0), 2);
        x.run(1);
        Check.due("PUTS waits", x.buffer(0, Port.INBOX, 0), 3);
        HomeLook.due("line 6", x, 6, HomeLook.SD, 0, 0, 8 + 16);
        HomeLook.due("line 0", x, 0, HomeLook.SD, 0, 0, 4 + 8);
        x.run(1);
        Check.due("GETS of line 6 is taken", x.buffer(0, Port.INBOX, 0), 2);
        HomeLook.due("line 6", x, 6, HomeLook.S, 30, 0, 8 + 16 + 32);
        x.run(1);
        Check.due("PUTS passes line 0", x.buffer(0, Port.INBOX, 0), 1);
        HomeLook.due("line 6", x, 6, HomeLook.S, 30, 0, 16 + 32);
        HomeLook.due("line 0", x, 0, HomeLook.SD, 0, 0, 4 + 8);
    }

    /** GETS of node 3 comes in cycle 39 and GETS of node 1 in cycle 40; both stall until cycle 44. */
    private static void onePacketOfAChannelIsTakenACycle() {
        Guarded x = Scenes.longSd();
        x.operation(3, LOAD, 0, 0, 5);
        x.operation(1, LOAD, 0, 0, 6);
        x.run(13);
        Check.due("both stall", x.buffer(0, Port.INBOX, 0), 2);
        HomeLook.due("SD", x, 0, HomeLook.SD, 0, 0, 1 + 4);
        x.run(1);
        Check.due("one is left", x.buffer(0, Port.INBOX, 0), 1);
        HomeLook.due("the one that came first is taken", x, 0, HomeLook.S, 7, 0, 1 + 4 + 8);
        x.run(1);
        Check.due("none is left", x.buffer(0, Port.INBOX, 0), 0);
        HomeLook.due("the other one is taken", x, 0, HomeLook.S, 7, 0, 1 + 2 + 4 + 8);
    }

    private static void channelTwoIsTakenBeforeChannelZero() {
        Guarded x = Scenes.longSd();
        x.operation(3, LOAD, 0, 0, 5);
        x.run(13);
        HomeLook.due("before DATA", x, 0, HomeLook.SD, 0, 0, 1 + 4);
        x.run(1);
        HomeLook.due("DATA and then GETS in one cycle", x, 0, HomeLook.S, 7, 0, 1 + 4 + 8);
    }

    /** Node 2's INV overtakes its DATA, which comes in cycle 17: S for no longer than a moment. */
    private static void channelTwoIsTakenBeforeChannelOne() {
        Guarded x = new Guarded(1, 5);
        x.operation(2, LOAD, 0, 0, 0);
        x.operation(0, STORE, 0, 9, 3);
        x.run(16);
        Check.due("INV stalls", x.buffer(2, Port.INBOX, 1), 1);
        CacheLook.due("before DATA", x, 2, 0, CacheLook.ISD, 0, 0, 0);
        x.run(1);
        Check.due("INV is taken", x.buffer(2, Port.INBOX, 1), 0);
        CacheLook.due("DATA and then INV in one cycle", x, 2, 0, CacheLook.I, 0, 0, 17);
        Check.due("done by DATA", x.done(2), 1);
    }
}
