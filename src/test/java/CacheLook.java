/** The states of a line in a cache, and a look at all that cache() tells of one. */
final class CacheLook {
    static final int I = 0;
    static final int ISD = 1;
    static final int IMAD = 2;
    static final int IMA = 3;
    static final int S = 4;
    static final int SMAD = 5;
    static final int SMA = 6;
    static final int M = 7;
    static final int MIA = 8;
    static final int SIA = 9;
    static final int IIA = 10;

    private CacheLook() {
    }

    /** What is due: state, value, NEEDS, USED. */
    static void due(String where, Face x, int n, int l, int... want) {
        for (int what = 0; what < 4; what++) {
            Check.due(where + ": cache(" + n + ", " + l + ", " + what + ")", x.cache(n, l, what), want[what]);
        }
    }
}
