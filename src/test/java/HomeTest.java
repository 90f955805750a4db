/** Promise 7: home; and Terms: what a home takes, and when it stalls. */
public final class HomeTest {
    private static final int LOAD = Programs.LOAD;
    private static final int STORE = Programs.STORE;
    private static final int I = HomeLook.I;
    private static final int S = HomeLook.S;
    private static final int M = HomeLook.M;
    private static final int SD = HomeLook.SD;

    public static void main(String[] args) {
        getsInIAndSMakesASharer();
        getsInMMakesBothSharers();
        getsAndGetmStallInSd();
        getmInIMakesAnOwner();
        getmOfTheOnlySharerNeedsNoAck();
        getmAmongAllSharersNeedsFiveAcks();
        invsAreSentAscending();
        getmInMMakesAnotherOwner();
        putsOfTheLastSharerMakesI();
        putmOfTheOwnerMakesI();
        putmOfAnOldOwnerInMChangesNothing();
        putmOfAnOldOwnerInSdDropsASharer();
        putmOfAnOldOwnerInSDropsASharer();
        putmOfTheLastSharerMakesI();
        dataMakesS();
        dataMakesSThoughAllSharersWent();
        theFirstAndLastLine();
        noSuchLineIsBad();
        noSuchWhatIsBad();
        Check.end();
    }

    private static void getsInIAndSMakesASharer() {
        Guarded x = new Guarded(4, 2);
        x.operation(0, LOAD, 0, 0, 0);
        x.operation(5, LOAD, 0, 0, 0);
        x.run(2);
        HomeLook.due("GETS is under way", x, 0, I, 0, 0, 0);
        x.run(1);
        HomeLook.due("GETS of node 0 in I", x, 0, S, 0, 0, 1);
        x.run(20);
        HomeLook.due("GETS of node 5 in S", x, 0, S, 0, 0, 1 + 32);
    }

    private static void getsInMMakesBothSharers() {
        Guarded x = Scenes.longSd();
        x.run(2);
        HomeLook.due("before GETS", x, 0, M, 0, 2 + 1, 0);
        x.run(1);
        HomeLook.due("GETS", x, 0, SD, 0, 0, 1 + 4);
    }

    private static void getsAndGetmStallInSd() {
        for (int kind = LOAD; kind <= STORE; kind++) {
            Guarded x = Scenes.longSd();
            x.operation(3, kind, 0, 8, 5);
            x.run(9);
            Check.due("it is there and stalls", x.buffer(0, Port.INBOX, 0), 1);
            x.run(4);
            Check.due("it stalls still", x.buffer(0, Port.INBOX, 0), 1);
            HomeLook.due("SD", x, 0, SD, 0, 0, 1 + 4);
            x.run(1);
            Check.due("it is taken", x.buffer(0, Port.INBOX, 0), 0);
        }
    }

    private static void getmInIMakesAnOwner() {
        Guarded x = new Guarded(4, 2);
        x.operation(1, STORE, 2, 4, 0);
        x.run(3);
        HomeLook.due("before GETM", x, 2, I, 0, 0, 0);
        x.run(1);
        HomeLook.due("GETM", x, 2, M, 0, 1 + 1, 0);
        Port.rowsDue("DATA and no INV", x, 2, 0, 0, 1);
        x.run(50);
        HomeLook.due("the home does not see the value", x, 2, M, 0, 1 + 1, 0);
    }

    private static void getmOfTheOnlySharerNeedsNoAck() {
        Guarded x = new Guarded(4, 2);
        x.operation(0, LOAD, 0, 0, 0);
        x.operation(0, STORE, 0, 9, 0);
        x.run(9);
        HomeLook.due("GETM of the sharer", x, 0, M, 0, 1, 0);
        Port.rowsDue("DATA and no INV", x, 0, 0, 0, 1);
        x.run(3);
        CacheLook.due("DATA without ACKS", x, 0, 0, CacheLook.M, 9, 0, 12);
    }

    /** Node 0, the home, stores in cycle 101: GETM is taken in 103, which it is. */
    private static Guarded allSharedOneStores() {
        Guarded x = Scenes.allShare();
        x.operation(0, STORE, 0, 9, 0);
        x.run(3);
        HomeLook.due("GETM of node 0", x, 0, M, 0, 1, 0);
        return x;
    }

    private static void getmAmongAllSharersNeedsFiveAcks() {
        Guarded x = allSharedOneStores();
        Port.rowsDue("DATA and five INVs", x, 0, 0, 5, 1);
        x.run(3);
        CacheLook.due("DATA with five of ACKS", x, 0, 0, CacheLook.SMA, 0, 5, x.cache(0, 0, 3));
    }

    /** INV of node n enters n cycles behind GETM, and needs one cycle a link and one more to go out. */
    private static void invsAreSentAscending() {
        Guarded x = allSharedOneStores();
        int[] gone = {0, 106, 108, 108, 110, 112};
        for (int i = 0; i < 12; i++) {
            int cycle = x.run(1);
            for (int n = 1; n < 6; n++) {
                int want = cycle >= gone[n] ? CacheLook.I : CacheLook.S;
                Check.due("line 0 of node " + n + " in cycle " + cycle, x.cache(n, 0, 0), want);
            }
        }
    }

    private static void getmInMMakesAnotherOwner() {
        Guarded x = new Guarded(4, 2);
        x.operation(2, STORE, 0, 7, 0);
        x.run(30);
        x.operation(0, STORE, 0, 8, 0);
        x.run(2);
        HomeLook.due("before GETM", x, 0, M, 0, 2 + 1, 0);
        x.run(1);
        HomeLook.due("GETM", x, 0, M, 0, 0 + 1, 0);
        Port.rowsDue("FWDM alone", x, 0, 0, 1, 0);
    }

    private static void putsOfTheLastSharerMakesI() {
        Guarded x = new Guarded(4, 2);
        x.operation(0, LOAD, 0, 0, 0);
        x.operation(5, LOAD, 0, 0, 0);
        x.run(50);
        x.operation(0, LOAD, 6, 0, 0);
        x.operation(0, LOAD, 2, 0, 0);
        x.run(50);
        HomeLook.due("PUTS of node 0, node 5 is left", x, 0, S, 0, 0, 32);
        CacheLook.due("DONE", x, 0, 0, CacheLook.I, 0, 0, 6);
        x.operation(5, LOAD, 2, 0, 0);
        x.operation(5, LOAD, 4, 0, 0);
        x.run(60);
        HomeLook.due("PUTS of node 5, none is left", x, 0, I, 0, 0, 0);
        Check.due("DONE", x.cache(5, 0, 0), CacheLook.I);
    }

    private static void putmOfTheOwnerMakesI() {
        Guarded x = new Guarded(1, 5);
        x.operation(4, STORE, 1, 11, 0);
        x.operation(4, STORE, 3, 33, 0);
        x.operation(4, STORE, 5, 55, 0);
        Programs.run(x, 200);
        HomeLook.due("PUTM", x, 1, I, 11, 0, 0);
        HomeLook.due("not put", x, 3, M, 0, 4 + 1, 0);
        HomeLook.due("not put", x, 5, M, 0, 4 + 1, 0);
        Check.due("DONE", x.cache(4, 1, 0), CacheLook.I);
    }

    private static void putmOfAnOldOwnerInMChangesNothing() {
        Guarded x = Scenes.goingAndAskedFor(STORE);
        x.run(3);
        HomeLook.due("the new owner", x, 0, M, 0, 0 + 1, 0);
        x.run(60);
        Check.due("PUTM came and DONE went", x.cache(5, 0, 0), CacheLook.I);
        HomeLook.due("the new owner still", x, 0, M, 0, 0 + 1, 0);
        Check.due("the new owner's value", x.cache(0, 0, 1), 9);
    }

    /** PUTM comes before the DATA that node 5 sends for FWDS. */
    private static void putmOfAnOldOwnerInSdDropsASharer() {
        Guarded x = Scenes.goingAndAskedFor(LOAD);
        x.run(3);
        HomeLook.due("both share", x, 0, SD, 0, 0, 1 + 32);
        x.run(5);
        HomeLook.due("before PUTM", x, 0, SD, 0, 0, 1 + 32);
        x.run(1);
        HomeLook.due("PUTM", x, 0, SD, 0, 0, 1);
        x.run(60);
        HomeLook.due("DATA", x, 0, S, 7, 0, 1);
    }

    /**
     * Node 1's PUTM enters one flit before its two DATA, which are of a channel that goes first:
     * the home is in S when PUTM is there.
     */
    private static void putmOfAnOldOwnerInSDropsASharer() {
        Guarded x = new Guarded(4, 5);
        x.operation(1, STORE, 0, 7, 0);
        x.operation(1, STORE, 4, 1, 0);
        x.run(50);
        // Node 0's GETS: 51, taken in 53; FWDS enters in 54, goes over in 55 and out in 56.
        x.operation(0, LOAD, 0, 0, 0);
        x.operation(1, STORE, 2, 2, 4);
        x.run(5);
        Check.due("PUTM is sent", x.cache(1, 0, 0), CacheLook.MIA);
        x.run(1);
        Check.due("FWDS is taken", x.cache(1, 0, 0), CacheLook.SIA);
        HomeLook.due("both share", x, 0, SD, 0, 0, 1 + 2);
        x.run(11);
        HomeLook.due("before DATA", x, 0, SD, 0, 0, 1 + 2);
        x.run(1);
        HomeLook.due("DATA", x, 0, S, 7, 0, 1 + 2);
        x.run(3);
        HomeLook.due("before PUTM", x, 0, S, 7, 0, 1 + 2);
        x.run(1);
        HomeLook.due("PUTM", x, 0, S, 7, 0, 1);
    }

    /**
     * Node 0 owned line 4, gave it to node 4, its home, and lets it go too. The crowd of line 6
     * holds its PUTM back: DATA to the home comes in cycle 41, node 4's PUTS in 42, PUTM in 47.
     */
    private static void putmOfTheLastSharerMakesI() {
        Guarded x = new Guarded(4, 3);
        x.operation(0, STORE, 4, 44, 0);
        x.operation(0, LOAD, 6, 0, 0);
        x.operation(0, LOAD, 0, 0, 2);
        x.operation(1, LOAD, 2, 0, 0);
        x.operation(1, LOAD, 6, 0, 0);
        x.operation(3, LOAD, 6, 0, 0);
        x.operation(3, STORE, 6, 31, 0);
        x.operation(4, LOAD, 0, 0, 0);
        x.operation(4, LOAD, 4, 0, 4);
        x.operation(4, LOAD, 0, 0, 0);
        x.operation(4, LOAD, 6, 0, 0);
        x.operation(5, STORE, 6, 50, 0);
        x.run(40);
        HomeLook.due("before DATA", x, 4, SD, 0, 0, 1 + 16);
        x.run(1);
        HomeLook.due("DATA", x, 4, S, 44, 0, 1 + 16);
        x.run(1);
        HomeLook.due("PUTS of node 4", x, 4, S, 44, 0, 1);
        x.run(4);
        HomeLook.due("before PUTM", x, 4, S, 44, 0, 1);
        x.run(1);
        HomeLook.due("PUTM of node 0", x, 4, I, 44, 0, 0);
    }

    private static void dataMakesS() {
        Guarded x = Scenes.longSd();
        x.run(13);
        HomeLook.due("before DATA", x, 0, SD, 0, 0, 1 + 4);
        Check.due("node 0 has its own DATA", x.result(0, 0), 7);
        x.run(1);
        HomeLook.due("DATA", x, 0, S, 7, 0, 1 + 4);
    }

    /** Both sharers have gone before the old owner's DATA is there: the document says S all the same. */
    private static void dataMakesSThoughAllSharersWent() {
        Guarded x = Scenes.bothLetGo();
        x.run(39);
        HomeLook.due("both are gone", x, 0, SD, 0, 0, 0);
        x.run(1);
        HomeLook.due("DATA", x, 0, S, 7, 0, 0);
        x.operation(5, LOAD, 0, 0, 0);
        x.run(60);
        HomeLook.due("a new sharer", x, 0, S, 7, 0, 32);
        Check.due("its value", x.result(5, 0), 7);
    }

    private static void theFirstAndLastLine() {
        Guarded x = new Guarded(4, 2);
        x.operation(2, STORE, 0, 5, 0);
        x.operation(3, LOAD, 7, 0, 0);
        x.run(50);
        HomeLook.due("the first", x, 0, M, 0, 2 + 1, 0);
        HomeLook.due("the last", x, 7, S, 0, 0, 8);
    }

    private static void noSuchLineIsBad() {
        Guarded x = new Guarded(2, 3);
        int[] none = {-1, 8, Integer.MIN_VALUE, Integer.MAX_VALUE};
        for (int l : none) {
            Check.due("home(" + l + ", 0)", x.home(l, 0), MeshLines.BAD);
            Check.due("home(" + l + ", 3)", x.home(l, 3), MeshLines.BAD);
        }
    }

    private static void noSuchWhatIsBad() {
        Guarded x = new Guarded(2, 3);
        int[] none = {-1, 4, Integer.MIN_VALUE, Integer.MAX_VALUE};
        for (int what : none) {
            Check.due("home(0, " + what + ")", x.home(0, what), MeshLines.BAD);
        }
    }
}
