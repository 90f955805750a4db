/** Promise 6: cache. */
public final class CacheTest {
    private static final int I = 0;
    private static final int ISD = 1;
    private static final int IMAD = 2;
    private static final int IMA = 3;
    private static final int S = 4;
    private static final int SMAD = 5;
    private static final int SMA = 6;
    private static final int M = 7;
    private static final int MIA = 8;
    private static final int SIA = 9;
    private static final int IIA = 10;

    public static void main(String[] args) {
        loadsAndStoresGoThroughTheirStates();
        acksAreNeeded();
        theLeastLatelyUsedLineGoes();
        theOneUsedFirstGoesThoughItIsHigher();
        forwardsAreStalledUntilM();
        valuesAreZeroInI();
        everyStateIsReached();
        noneSuchIsBad();
        Check.end();
    }

    private static void line(MeshLines x, String where, int n, int l, int[] want) {
        for (int what = 0; what < 4; what++) {
            Check.due(where + ": cache(" + n + ", " + l + ", " + what + ")", x.cache(n, l, what), want[what]);
        }
    }

    private static void loadsAndStoresGoThroughTheirStates() {
        MeshLines x = new MeshLines(4, 2);
        x.operation(0, 0, 0, 0, 0);
        x.operation(0, 1, 0, 9, 0);
        x.run(1);
        line(x, "asked", 0, 0, new int[] {ISD, 0, 0, 0});
        x.run(4);
        line(x, "before DATA", 0, 0, new int[] {ISD, 0, 0, 0});
        x.run(1);
        line(x, "loaded", 0, 0, new int[] {S, 0, 0, 6});
        x.run(1);
        line(x, "asked for M", 0, 0, new int[] {SMAD, 0, 0, 6});
        x.run(5);
        line(x, "stored", 0, 0, new int[] {M, 9, 0, 12});
        x.run(50);
        line(x, "later", 0, 0, new int[] {M, 9, 0, 12});
    }

    /** Nodes 0 and 5 share line 0, then node 0 stores: it needs the ACK of node 5. */
    private static void acksAreNeeded() {
        MeshLines x = new MeshLines(4, 2);
        x.operation(0, 0, 0, 0, 0);
        x.operation(5, 0, 0, 0, 0);
        x.operation(0, 1, 0, 9, 30);
        x.run(36);
        line(x, "shared by 0", 0, 0, new int[] {S, 0, 0, 6});
        Check.due("shared by 5", x.cache(5, 0, 0), S);
        x.run(1);
        Check.due("asked", x.cache(0, 0, 0), SMAD);
        x.run(5);
        line(x, "DATA with one ACK to come", 0, 0, new int[] {SMA, 0, 1, 6});
        // INV is sent in cycle 39, enters in 40, goes over three links and out in 44; ACK likewise.
        x.run(6);
        line(x, "one cycle before ACK", 0, 0, new int[] {SMA, 0, 1, 6});
        Check.due("node 5 has none", x.cache(5, 0, 0), I);
        x.run(1);
        line(x, "ACK", 0, 0, new int[] {M, 9, 0, 49});
    }

    private static void theLeastLatelyUsedLineGoes() {
        MeshLines x = new MeshLines(4, 2);
        x.operation(0, 1, 0, 1, 0);
        x.operation(0, 1, 6, 2, 0);
        x.operation(0, 0, 0, 0, 0);
        x.run(13);
        Check.due("done(0)", x.done(0), 3);
        x.operation(0, 0, 2, 0, 0);
        x.operation(0, 0, 1, 0, 0);
        x.run(1);
        Check.due("line 6 goes", x.cache(0, 6, 0), MIA);
        Check.due("its value stays", x.cache(0, 6, 1), 2);
        Check.due("line 0 stays", x.cache(0, 0, 0), M);
        Check.due("line 2 waits", x.cache(0, 2, 0), I);
        x.run(4);
        Check.due("PUTM took two flits, DONE is not there", x.cache(0, 6, 0), MIA);
        Check.due("the home has the value", x.home(6, 1), 2);
        x.run(1);
        line(x, "DONE", 0, 6, new int[] {I, 0, 0, 12});
        Check.due("line 2 is asked for in the same cycle", x.cache(0, 2, 0), ISD);
    }

    private static void theOneUsedFirstGoesThoughItIsHigher() {
        MeshLines x = new MeshLines(4, 2);
        int[] lines = {7, 1, 3, 5};
        for (int l : lines) {
            x.operation(1, 0, l, 0, 0);
        }
        x.run(12);
        Check.due("done(1)", x.done(1), 2);
        Check.due("line 7 was used first", x.cache(1, 7, 3), 6);
        Check.due("line 1 was used later", x.cache(1, 1, 3), 12);
        x.run(1);
        Check.due("the one used first goes", x.cache(1, 7, 0), SIA);
        Check.due("the other one stays", x.cache(1, 1, 0), S);
    }

    /** Node 0 waits for node 5's ACK until cycle 49; node 3's GETM becomes a FWDM that waits too. */
    private static void forwardsAreStalledUntilM() {
        MeshLines x = new MeshLines(4, 2);
        x.operation(0, 0, 0, 0, 0);
        x.operation(5, 0, 0, 0, 0);
        x.operation(0, 1, 0, 9, 30);
        x.operation(3, 2, 0, 6, 36);
        x.run(48);
        Check.due("the home's owner is node 3 already", x.home(0, 2), 4);
        line(x, "node 0 waits", 0, 0, new int[] {SMA, 0, 1, 6});
        line(x, "node 3 waits", 3, 0, new int[] {IMAD, 0, 0, 0});
        x.run(1);
        Check.due("stored at once", x.done(0), 2);
        line(x, "and given away in the same cycle", 0, 0, new int[] {I, 0, 0, 49});
        // DATA enters in 50 and 51, goes over the link in 51 and 52 and out in 52 and 53.
        x.run(3);
        Check.due("node 3 waits for the last flit", x.cache(3, 0, 0), IMAD);
        x.run(1);
        Check.due("node 3 swaps", x.result(3, 0), 9);
        line(x, "swapped", 3, 0, new int[] {M, 6, 0, 53});
    }

    private static void valuesAreZeroInI() {
        MeshLines x = new MeshLines(2, 3);
        for (int n = 0; n < 6; n++) {
            for (int k = 0; k < 30; k++) {
                x.operation(n, (n + k) % 3, (k * 5 + n) % 8, n * 100 + k + 1, k % 5);
            }
        }
        for (int i = 0; i < 500; i++) {
            x.run(3);
            for (int n = 0; n < 6; n++) {
                int even = 0;
                int odd = 0;
                for (int l = 0; l < 8; l++) {
                    boolean isIn = x.cache(n, l, 0) != I;
                    Check.holds("a line that is not in has no value", isIn || x.cache(n, l, 1) == 0);
                    even += isIn && l % 2 == 0 ? 1 : 0;
                    odd += isIn && l % 2 == 1 ? 1 : 0;
                }
                Check.holds("two even and two odd ones at most", even <= 2 && odd <= 2);
            }
        }
    }

    private static void everyStateIsReached() {
        int reached = 0;
        for (int seed = 0; seed < 20; seed++) {
            MeshLines x = new MeshLines(1 + seed % 4, 2 + seed % 3);
            Programs.fill(x, seed, 40);
            for (int i = 0; i < 400; i++) {
                x.run(2);
                for (int n = 0; n < 6; n++) {
                    for (int l = 0; l < 8; l++) {
                        reached |= 1 << x.cache(n, l, 0);
                    }
                }
            }
        }
        int all = 1 << I | 1 << ISD | 1 << IMAD | 1 << IMA | 1 << S | 1 << SMAD | 1 << SMA | 1 << M
            | 1 << MIA | 1 << SIA | 1 << IIA;
        Check.due("the states that were reached", reached, all);
    }

    private static void noneSuchIsBad() {
        MeshLines x = new MeshLines(2, 3);
        Check.due("cache(5, 7, 3)", x.cache(5, 7, 3), 0);
        int[][] none = {
            {-1, 0, 0}, {6, 0, 0}, {0, -1, 0}, {0, 8, 0}, {0, 0, -1}, {0, 0, 4},
            {Integer.MAX_VALUE, 0, 0}, {0, Integer.MIN_VALUE, 0}, {0, 0, Integer.MAX_VALUE},
        };
        for (int[] w : none) {
            Check.due("cache(" + w[0] + ", " + w[1] + ", " + w[2] + ")", x.cache(w[0], w[1], w[2]), MeshLines.BAD);
        }
    }
}
