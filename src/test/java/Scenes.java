/** Beginnings that several tests have in common. */
final class Scenes {
    private static final int LOAD = Programs.LOAD;
    private static final int STORE = Programs.STORE;

    private Scenes() {
    }

    /** All six nodes share line 0; it is cycle 100. */
    static Guarded allShare() {
        Guarded x = new Guarded(4, 2);
        for (int n = 0; n < 6; n++) {
            x.operation(n, LOAD, 0, 0, 0);
        }
        x.run(100);
        HomeLook.due("all share", x, 0, HomeLook.S, 0, 0, 63);
        return x;
    }

    /**
     * Node 2 owns line 0 with the value 7, and node 0, its home, asks for it; it is cycle 30. GETS
     * is sent in 31 and FWDS in 33, SD being from then on; FWDS is taken in 37, DATA to node 0 comes
     * in 42 and DATA to the home in 44.
     */
    static Guarded longSd() {
        Guarded x = new Guarded(4, 2);
        x.operation(2, STORE, 0, 7, 0);
        x.run(30);
        HomeLook.due("owned by node 2", x, 0, HomeLook.M, 0, 2 + 1, 0);
        x.operation(0, LOAD, 0, 0, 0);
        return x;
    }

    /**
     * Node 1 owned line 0 with the value 7 and gave it to node 0, its home; both let it go again
     * before the slow DATA to the home is there in cycle 40. It is cycle 0.
     */
    static Guarded bothLetGo() {
        Guarded x = new Guarded(1, 3);
        x.operation(1, STORE, 2, 1, 0);
        x.operation(1, STORE, 0, 7, 0);
        x.operation(1, LOAD, 2, 0, 0);
        x.operation(1, LOAD, 4, 0, 0);
        x.operation(0, LOAD, 6, 0, 0);
        x.operation(0, LOAD, 0, 0, 12);
        x.operation(0, LOAD, 6, 0, 0);
        x.operation(0, LOAD, 4, 0, 0);
        return x;
    }

    /**
     * Node 5 lets go line 0 with the value 7: PUTM of five flits is sent in cycle 51, which it is,
     * and comes in 60. Node 0, the home, asks for the line: its request is taken in 54, before PUTM,
     * and the forward in 59.
     */
    static Guarded goingAndAskedFor(int kind) {
        Guarded x = new Guarded(4, 5);
        x.operation(5, STORE, 0, 7, 0);
        x.operation(5, STORE, 4, 1, 0);
        x.run(50);
        x.operation(5, STORE, 2, 2, 0);
        x.run(1);
        Check.due("PUTM is sent", x.cache(5, 0, 0), CacheLook.MIA);
        x.operation(0, kind, 0, 9, 0);
        return x;
    }
}
