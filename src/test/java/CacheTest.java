/** Promise 6: cache; and Terms: what a cache takes, and when it stalls. */
public final class CacheTest {
    private static final int LOAD = Programs.LOAD;
    private static final int STORE = Programs.STORE;
    private static final int I = CacheLook.I;
    private static final int ISD = CacheLook.ISD;
    private static final int IMAD = CacheLook.IMAD;
    private static final int IMA = CacheLook.IMA;
    private static final int S = CacheLook.S;
    private static final int SMAD = CacheLook.SMAD;
    private static final int SMA = CacheLook.SMA;
    private static final int M = CacheLook.M;
    private static final int MIA = CacheLook.MIA;
    private static final int SIA = CacheLook.SIA;
    private static final int IIA = CacheLook.IIA;

    public static void main(String[] args) {
        dataInIsdMakesS();
        dataWithoutAcksInImadMakesM();
        dataWithAcksInImadMakesIma();
        dataWithoutAcksInSmadMakesM();
        dataWithAcksInSmadMakesSma();
        needsFallsBelowZeroBeforeData();
        needsFallsOneByOne();
        invInSMakesI();
        invInSmadMakesImad();
        invInSiaMakesIia();
        invStallsInIsd();
        fwdsInMMakesS();
        fwdsInMiaMakesSia();
        fwdsStallsInImad();
        fwdmInMMakesI();
        fwdmInMiaMakesIia();
        fwdmStallsInSma();
        doneMakesIAndTheValueZero();
        valuesAreZeroInI();
        everyStateIsReached();
        theFirstAndLastOfEverything();
        noSuchNodeIsBad();
        noSuchLineIsBad();
        noSuchWhatIsBad();
        Check.end();
    }

    /** Node 0 is the home of line 0: DATA comes five cycles behind the request. */
    private static Guarded own(int kind) {
        Guarded x = new Guarded(4, 2);
        x.operation(0, kind, 0, 9, 0);
        return x;
    }

    private static void dataInIsdMakesS() {
        Guarded x = own(LOAD);
        CacheLook.due("before", x, 0, 0, I, 0, 0, 0);
        x.run(1);
        CacheLook.due("asked", x, 0, 0, ISD, 0, 0, 0);
        x.run(4);
        CacheLook.due("before DATA", x, 0, 0, ISD, 0, 0, 0);
        x.run(1);
        CacheLook.due("DATA", x, 0, 0, S, 0, 0, 6);
    }

    private static void dataWithoutAcksInImadMakesM() {
        Guarded x = own(STORE);
        x.run(1);
        CacheLook.due("asked", x, 0, 0, IMAD, 0, 0, 0);
        x.run(4);
        CacheLook.due("before DATA", x, 0, 0, IMAD, 0, 0, 0);
        x.run(1);
        CacheLook.due("DATA", x, 0, 0, M, 9, 0, 6);
    }

    /** Node 3 shares line 0 and node 1 stores: GETM comes in cycle 34, DATA in 38, ACK in 41. */
    private static void dataWithAcksInImadMakesIma() {
        Guarded x = new Guarded(4, 2);
        x.operation(3, LOAD, 0, 0, 0);
        x.run(30);
        x.operation(1, STORE, 0, 9, 0);
        x.run(7);
        CacheLook.due("before DATA", x, 1, 0, IMAD, 0, 0, 0);
        x.run(1);
        CacheLook.due("DATA", x, 1, 0, IMA, 0, 1, 0);
        x.run(2);
        CacheLook.due("before ACK", x, 1, 0, IMA, 0, 1, 0);
        Check.due("not done", x.done(1), 0);
        x.run(1);
        CacheLook.due("ACK", x, 1, 0, M, 9, 0, 41);
        Check.due("done", x.done(1), 1);
    }

    private static void dataWithoutAcksInSmadMakesM() {
        Guarded x = own(LOAD);
        x.operation(0, STORE, 0, 9, 0);
        x.run(7);
        CacheLook.due("asked", x, 0, 0, SMAD, 0, 0, 6);
        x.run(4);
        CacheLook.due("before DATA", x, 0, 0, SMAD, 0, 0, 6);
        x.run(1);
        CacheLook.due("DATA", x, 0, 0, M, 9, 0, 12);
    }

    /** Nodes 0 and 5 share line 0, then node 0 stores: it needs the ACK of node 5. */
    private static Guarded needsAckOfFive() {
        Guarded x = new Guarded(4, 2);
        x.operation(0, LOAD, 0, 0, 0);
        x.operation(5, LOAD, 0, 0, 0);
        x.operation(0, STORE, 0, 9, 30);
        return x;
    }

    private static void dataWithAcksInSmadMakesSma() {
        Guarded x = needsAckOfFive();
        x.run(37);
        CacheLook.due("asked", x, 0, 0, SMAD, 0, 0, 6);
        x.run(5);
        CacheLook.due("DATA", x, 0, 0, SMA, 0, 1, 6);
        // INV is sent in cycle 39, enters in 40, goes over three links and out in 44; ACK likewise.
        x.run(6);
        CacheLook.due("before ACK", x, 0, 0, SMA, 0, 1, 6);
        x.run(1);
        CacheLook.due("ACK", x, 0, 0, M, 9, 0, 49);
    }

    /**
     * Node 3 shares line 0 and node 1 stores. The home's row is busy with DATA of line 6 to node 2
     * when GETM comes in cycle 36: node 3's ACK is there in cycle 43, DATA not before cycle 56.
     */
    private static void needsFallsBelowZeroBeforeData() {
        Guarded x = new Guarded(1, 5);
        x.operation(3, LOAD, 0, 0, 0);
        x.run(30);
        x.operation(2, LOAD, 6, 0, 0);
        x.operation(1, STORE, 0, 9, 2);
        x.run(12);
        CacheLook.due("before ACK", x, 1, 0, IMAD, 0, 0, 0);
        x.run(1);
        CacheLook.due("ACK", x, 1, 0, IMAD, 0, -1, 0);
        x.run(12);
        CacheLook.due("before DATA", x, 1, 0, IMAD, 0, -1, 0);
        x.run(1);
        CacheLook.due("DATA with one of ACKS", x, 1, 0, M, 9, 0, 56);
    }

    /** All six share line 0, and node 0, its home, stores: five ACKs come in their own times. */
    private static void needsFallsOneByOne() {
        Guarded x = Scenes.allShare();
        x.operation(0, STORE, 0, 9, 0);
        x.run(6);
        int before = x.cache(0, 0, 2);
        Check.due("DATA with five of ACKS, none came", before, 5);
        int state = SMA;
        for (int i = 0; i < 30; i++) {
            x.run(1);
            int needs = x.cache(0, 0, 2);
            Check.holds("one at a time", needs == before || needs == before - 1);
            state = needs == 0 ? M : SMA;
            Check.due("the state", x.cache(0, 0, 0), state);
            before = needs;
        }
        Check.due("all came", state, M);
    }

    private static void invInSMakesI() {
        Guarded x = needsAckOfFive();
        x.run(43);
        CacheLook.due("before INV", x, 5, 0, S, 0, 0, x.cache(5, 0, 3));
        int used = x.cache(5, 0, 3);
        x.run(1);
        CacheLook.due("INV", x, 5, 0, I, 0, 0, used);
        Port.rowsDue("ACK is sent", x, 5, 0, 0, 1);
    }

    /**
     * Nodes 1 and 3 share line 0 with the value 7 and store in cycle 101. Node 1's GETM is taken
     * first, in cycle 104; node 3's INV comes in 107. Its own GETM made node 1 give the line on.
     */
    private static void invInSmadMakesImad() {
        Guarded x = new Guarded(4, 2);
        x.operation(1, STORE, 0, 7, 0);
        x.operation(3, LOAD, 0, 0, 40);
        x.run(100);
        HomeLook.due("shared", x, 0, HomeLook.S, 7, 0, 2 + 8);
        int used = x.cache(3, 0, 3);
        x.operation(1, STORE, 0, 8, 0);
        x.operation(3, Programs.SWAP, 0, 9, 0);
        x.run(6);
        CacheLook.due("asked", x, 3, 0, SMAD, 7, 0, used);
        HomeLook.due("both were taken", x, 0, HomeLook.M, 7, 3 + 1, 0);
        x.run(1);
        CacheLook.due("INV, and the value stays", x, 3, 0, IMAD, 7, 0, used);
        Port.rowsDue("ACK is sent", x, 3, 0, 0, 1);
        x.run(40);
        Check.due("node 1 was first", x.result(3, 1), 8);
        Check.due("node 3 has it", x.cache(3, 0, 0), M);
        Check.due("its value", x.cache(3, 0, 1), 9);
        CacheLook.due("node 1 gave it away", x, 1, 0, I, 0, 0, x.cache(1, 0, 3));
    }

    /** Node 0's PUTS waits behind node 3's GETM, whose INV comes in cycle 42. */
    private static void invInSiaMakesIia() {
        Guarded x = Scenes.bothLetGo();
        x.operation(3, STORE, 0, 8, 27);
        x.run(41);
        CacheLook.due("PUTS was sent", x, 0, 0, SIA, 7, 0, 34);
        x.run(1);
        CacheLook.due("INV, and the value stays", x, 0, 0, IIA, 7, 0, 34);
        x.run(1);
        CacheLook.due("before DONE", x, 0, 0, IIA, 7, 0, 34);
        x.run(1);
        CacheLook.due("DONE", x, 0, 0, I, 0, 0, 34);
        x.run(5);
        CacheLook.due("node 3 had its ACK", x, 3, 0, M, 8, 0, 49);
    }

    /** INV goes in the gaps of DATA and is there in cycle 10, seven cycles before it. */
    private static void invStallsInIsd() {
        Guarded x = new Guarded(1, 5);
        x.operation(2, LOAD, 0, 0, 0);
        x.operation(0, STORE, 0, 9, 3);
        x.run(9);
        Port.buffersDue("INV", x, 2, Port.INBOX, 1, 1, 1, 1, 1, 1, 1, 1, 0);
        CacheLook.due("DATA came, then INV", x, 2, 0, I, 0, 0, 17);
        Port.rowsDue("ACK is sent", x, 2, 0, 0, 1);
    }

    /** Node 1 has line 0 in M; node 2 asks for it in cycle 51, and the forward comes in 58. */
    private static Guarded askedFor(int kind) {
        Guarded x = new Guarded(4, 2);
        x.operation(1, STORE, 0, 7, 0);
        x.run(50);
        x.operation(2, kind, 0, 9, 0);
        x.run(7);
        CacheLook.due("before the forward", x, 1, 0, M, 7, 0, 8);
        x.run(1);
        return x;
    }

    private static void fwdsInMMakesS() {
        Guarded x = askedFor(LOAD);
        CacheLook.due("FWDS", x, 1, 0, S, 7, 0, 8);
        Port.rowsDue("DATA to the asker and the home", x, 1, 0, 0, 2);
        x.run(30);
        Check.due("the asker's result", x.result(2, 0), 7);
        HomeLook.due("the home", x, 0, HomeLook.S, 7, 0, 2 + 4);
    }

    private static void fwdmInMMakesI() {
        Guarded x = askedFor(STORE);
        CacheLook.due("FWDM", x, 1, 0, I, 0, 0, 8);
        Port.rowsDue("DATA to the asker", x, 1, 0, 0, 1);
        x.run(30);
        Check.due("the asker's value", x.cache(2, 0, 1), 9);
        HomeLook.due("the home", x, 0, HomeLook.M, 0, 2 + 1, 0);
    }

    private static Guarded goingAndForwarded(int kind) {
        Guarded x = Scenes.goingAndAskedFor(kind);
        x.run(7);
        Check.due("before the forward", x.cache(5, 0, 0), MIA);
        Check.due("before the forward", x.cache(5, 0, 1), 7);
        x.run(1);
        return x;
    }

    private static void fwdsInMiaMakesSia() {
        Guarded x = goingAndForwarded(LOAD);
        Check.due("FWDS", x.cache(5, 0, 0), SIA);
        Check.due("the value stays", x.cache(5, 0, 1), 7);
        Port.rowsDue("DATA to the asker and the home", x, 5, 0, 0, 2);
        x.run(60);
        Check.due("DONE", x.cache(5, 0, 0), I);
        Check.due("the asker's result", x.result(0, 0), 7);
        HomeLook.due("the home", x, 0, HomeLook.S, 7, 0, 1);
    }

    private static void fwdmInMiaMakesIia() {
        Guarded x = goingAndForwarded(STORE);
        Check.due("FWDM", x.cache(5, 0, 0), IIA);
        Check.due("the value stays", x.cache(5, 0, 1), 7);
        Port.rowsDue("DATA to the asker", x, 5, 0, 0, 1);
        x.run(60);
        Check.due("DONE", x.cache(5, 0, 0), I);
        Check.due("the asker's value", x.cache(0, 0, 1), 9);
        HomeLook.due("the home", x, 0, HomeLook.M, 0, 1, 0);
    }

    /** FWDS goes in the gaps of DATA and is there in cycle 10; DATA comes in cycle 17. */
    private static void fwdsStallsInImad() {
        Guarded x = new Guarded(1, 5);
        x.operation(2, STORE, 0, 7, 0);
        x.operation(1, LOAD, 0, 0, 2);
        x.run(9);
        Port.buffersDue("FWDS", x, 2, Port.INBOX, 1, 1, 1, 1, 1, 1, 1, 1, 0);
        CacheLook.due("DATA came, then FWDS", x, 2, 0, S, 7, 0, 17);
        Port.rowsDue("DATA to the asker and the home", x, 2, 0, 0, 2);
    }

    /** Node 0 waits for node 5's ACK until cycle 49; node 3's GETM becomes a FWDM that waits too. */
    private static void fwdmStallsInSma() {
        Guarded x = needsAckOfFive();
        x.operation(3, Programs.SWAP, 0, 6, 36);
        x.run(48);
        Check.due("the home's owner is node 3 already", x.home(0, 2), 3 + 1);
        CacheLook.due("node 0 waits", x, 0, 0, SMA, 0, 1, 6);
        Check.due("FWDM waits", x.buffer(0, Port.INBOX, 1), 1);
        x.run(1);
        Check.due("stored at once", x.done(0), 2);
        CacheLook.due("and given away in the same cycle", x, 0, 0, I, 0, 0, 49);
        // DATA enters in 50 and 51, goes over the link in 51 and 52 and out in 52 and 53.
        x.run(3);
        CacheLook.due("node 3 waits for the last flit", x, 3, 0, IMAD, 0, 0, 0);
        x.run(1);
        Check.due("node 3 swaps", x.result(3, 0), 9);
        CacheLook.due("swapped", x, 3, 0, M, 6, 0, 53);
    }

    /** Node 0 lets go its own line 6: PUTM of two flits, and DONE three cycles behind its coming. */
    private static void doneMakesIAndTheValueZero() {
        Guarded x = own(STORE);
        x.operation(0, STORE, 6, 2, 0);
        x.operation(0, LOAD, 0, 0, 0);
        x.operation(0, LOAD, 2, 0, 0);
        x.run(14);
        CacheLook.due("PUTM is sent", x, 0, 6, MIA, 2, 0, 12);
        x.run(4);
        CacheLook.due("before DONE", x, 0, 6, MIA, 2, 0, 12);
        x.run(1);
        CacheLook.due("DONE", x, 0, 6, I, 0, 0, 12);
    }

    private static void valuesAreZeroInI() {
        for (int n = 0; n < 6; n++) {
            for (int l = 0; l < 8; l++) {
                Guarded x = Programs.crowd(2, 3);
                while (x.callsLeft() >= 3) {
                    x.run(9);
                    boolean isIn = x.cache(n, l, 0) != I;
                    Check.holds("a line that is not in has no value", x.cache(n, l, 1) == 0 || isIn);
                }
            }
        }
    }

    private static void everyStateIsReached() {
        int reached = 0;
        for (int seed = 0; seed < 60; seed++) {
            Guarded x = new Guarded(1 + seed % 4, 2 + seed % 3);
            Programs.fill(x, seed, 40);
            int place = seed;
            while (x.callsLeft() >= 49) {
                x.run(13);
                for (int i = 0; i < 48; i++) {
                    reached |= 1 << x.cache(i / 8, i % 8, 0);
                }
            }
            while (x.callsLeft() >= 2) {
                x.run(5);
                place++;
                reached |= 1 << x.cache(place % 6, place % 8, 0);
            }
        }
        int all = 1 << I | 1 << ISD | 1 << IMAD | 1 << IMA | 1 << S | 1 << SMAD | 1 << SMA | 1 << M
            | 1 << MIA | 1 << SIA | 1 << IIA;
        Check.due("the states that were reached", reached, all);
    }

    private static void theFirstAndLastOfEverything() {
        Guarded x = new Guarded(4, 2);
        x.operation(0, STORE, 0, 5, 0);
        x.operation(5, STORE, 7, 6, 0);
        x.run(50);
        Check.due("cache(0, 0, 0)", x.cache(0, 0, 0), M);
        Check.due("cache(0, 0, 3)", x.cache(0, 0, 3), 6);
        Check.due("cache(5, 7, 0)", x.cache(5, 7, 0), M);
        Check.due("cache(5, 7, 1)", x.cache(5, 7, 1), 6);
        Check.holds("cache(5, 7, 3)", x.cache(5, 7, 3) > 6);
    }

    private static void noSuchNodeIsBad() {
        Guarded x = new Guarded(2, 3);
        int[] none = {-1, 6, Integer.MIN_VALUE, Integer.MAX_VALUE};
        for (int n : none) {
            Check.due("cache(" + n + ", 0, 0)", x.cache(n, 0, 0), MeshLines.BAD);
        }
    }

    private static void noSuchLineIsBad() {
        Guarded x = new Guarded(2, 3);
        int[] none = {-1, 8, Integer.MIN_VALUE, Integer.MAX_VALUE};
        for (int l : none) {
            Check.due("cache(0, " + l + ", 0)", x.cache(0, l, 0), MeshLines.BAD);
        }
    }

    private static void noSuchWhatIsBad() {
        Guarded x = new Guarded(2, 3);
        int[] none = {-1, 4, Integer.MIN_VALUE, Integer.MAX_VALUE};
        for (int what : none) {
            Check.due("cache(0, 0, " + what + ")", x.cache(0, 0, what), MeshLines.BAD);
        }
    }
}
