/** The states of a line at its home, and a look at all that home() tells of one. */
final class HomeLook {
    static final int I = 0;
    static final int S = 1;
    static final int M = 2;
    static final int SD = 3;

    private HomeLook() {
    }

    /** What is due: state, value, the owner plus 1, the sharers as bits. */
    static void due(String where, Face x, int l, int... want) {
        for (int what = 0; what < 4; what++) {
            Check.due(where + ": home(" + l + ", " + what + ")", x.home(l, what), want[what]);
        }
    }
}
