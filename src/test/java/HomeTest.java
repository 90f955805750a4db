/** Promise 7: home. */
public final class HomeTest {
    private static final int I = 0;
    private static final int S = 1;
    private static final int M = 2;
    private static final int SD = 3;

    public static void main(String[] args) {
        sharersComeAndGo();
        anOwnerGivesToTheHomeAndTheAsker();
        anOwnerGoes();
        dataEndsSdThoughAllSharersWent();
        lateRequestsToLeaveChangeNoValue();
        homesAreWhereTheyShouldBe();
        noneSuchIsBad();
        Check.end();
    }

    private static void line(MeshLines x, String where, int l, int[] want) {
        for (int what = 0; what < 4; what++) {
            Check.due(where + ": home(" + l + ", " + what + ")", x.home(l, what), want[what]);
        }
    }

    private static void sharersComeAndGo() {
        MeshLines x = new MeshLines(4, 2);
        x.operation(0, 0, 0, 0, 0);
        x.operation(5, 0, 0, 0, 0);
        x.run(2);
        line(x, "GETS is under way", 0, new int[] {I, 0, 0, 0});
        x.run(1);
        line(x, "GETS of node 0", 0, new int[] {S, 0, 0, 1});
        x.run(20);
        line(x, "GETS of node 5", 0, new int[] {S, 0, 0, 33});
        x.operation(0, 0, 6, 0, 0);
        x.operation(0, 0, 2, 0, 0);
        x.run(40);
        line(x, "PUTS of node 0", 0, new int[] {S, 0, 0, 32});
        x.operation(5, 0, 2, 0, 0);
        x.operation(5, 0, 4, 0, 0);
        x.run(60);
        line(x, "PUTS of node 5", 0, new int[] {I, 0, 0, 0});
        x.operation(1, 1, 2, 4, 0);
        x.run(60);
        line(x, "GETM of node 1", 2, new int[] {M, 0, 2, 0});
    }

    /** In SD the home has the sharers but not yet the value. */
    private static void anOwnerGivesToTheHomeAndTheAsker() {
        MeshLines x = new MeshLines(4, 2);
        x.operation(2, 1, 0, 7, 0);
        x.run(30);
        line(x, "owned by node 2", 0, new int[] {M, 0, 3, 0});
        x.operation(0, 0, 0, 0, 0);
        x.operation(3, 1, 0, 8, 5);
        // GETS: 31, at the home in 33; FWDS goes over two links and is taken in 37.
        x.run(3);
        line(x, "FWDS was sent", 0, new int[] {SD, 0, 0, 5});
        x.run(9);
        line(x, "DATA for the home is the second packet", 0, new int[] {SD, 0, 0, 5});
        Check.due("node 0 has its DATA", x.result(0, 0), 7);
        Check.due("GETM of node 3 stalls", x.buffer(0, 6, 0), 1);
        x.run(1);
        Check.due("only the last flit is missing", x.home(0, 0), SD);
        x.run(1);
        line(x, "DATA ends SD, and GETM is taken in the same cycle", 0, new int[] {M, 7, 4, 0});
    }

    private static void anOwnerGoes() {
        MeshLines x = new MeshLines(1, 5);
        x.operation(4, 1, 1, 11, 0);
        x.operation(4, 1, 3, 33, 0);
        x.operation(4, 1, 5, 55, 0);
        for (int i = 0; i < 2; i++) {
            x.run(100);
        }
        line(x, "PUTM", 1, new int[] {I, 11, 0, 0});
        line(x, "not put", 3, new int[] {M, 0, 5, 0});
        line(x, "not put", 5, new int[] {M, 0, 5, 0});
    }

    /** Both sharers have gone before the old owner's DATA is there: the document says S all the same. */
    private static void dataEndsSdThoughAllSharersWent() {
        MeshLines x = new MeshLines(1, 3);
        x.operation(1, 1, 2, 1, 0);
        x.operation(1, 1, 0, 7, 0);
        x.operation(1, 0, 2, 0, 0);
        x.operation(1, 0, 4, 0, 0);
        x.operation(0, 0, 6, 0, 0);
        x.operation(0, 0, 0, 0, 12);
        x.operation(0, 0, 6, 0, 0);
        x.operation(0, 0, 4, 0, 0);
        x.run(39);
        line(x, "both are gone", 0, new int[] {SD, 0, 0, 0});
        x.run(1);
        line(x, "DATA", 0, new int[] {S, 7, 0, 0});
        x.operation(5, 0, 0, 0, 0);
        x.run(60);
        line(x, "a new sharer", 0, new int[] {S, 7, 0, 32});
        Check.due("its value", x.result(5, 0), 7);
    }

    /** PUTM of a node that is the owner no more: FWDM overtook it, and the new owner stays. */
    private static void lateRequestsToLeaveChangeNoValue() {
        MeshLines x = new MeshLines(4, 5);
        x.operation(5, 1, 0, 7, 0);
        x.operation(5, 1, 4, 1, 0);
        x.operation(5, 1, 2, 2, 0);
        boolean isGoing = false;
        for (int i = 0; i < 100 && !isGoing; i++) {
            x.run(1);
            isGoing = x.cache(5, 0, 0) == 8;
        }
        x.operation(0, 2, 0, 9, 0);
        x.run(3);
        line(x, "FWDM was sent", 0, new int[] {M, 0, 1, 0});
        x.run(4);
        Check.due("FWDM is under way still", x.cache(5, 0, 0), 8);
        x.run(1);
        Check.due("FWDM is taken", x.cache(5, 0, 0), 10);
        Check.due("the value stays in IIA", x.cache(5, 0, 1), 7);
        x.run(60);
        line(x, "PUTM came late", 0, new int[] {M, 0, 1, 0});
        Check.due("DONE", x.cache(5, 0, 0), 0);
        Check.due("the new owner's result", x.result(0, 0), 7);
        Check.due("the new owner's value", x.cache(0, 0, 1), 9);
    }

    /** A node whose own lines are at home sends no flit over a link. */
    private static void homesAreWhereTheyShouldBe() {
        for (int l = 0; l < 8; l++) {
            for (int n = 0; n < 6; n++) {
                MeshLines x = new MeshLines(4, 2);
                x.operation(n, 1, l, 1, 0);
                x.run(40);
                Check.due("done", x.done(n), 1);
                Check.due("the owner", x.home(l, 2), n + 1);
                int links = Math.abs(n % 3 - l % 6 % 3) + Math.abs(n / 3 - l % 6 / 3);
                Check.due("flits over links", x.count(2), 3 * links);
            }
        }
    }

    private static void noneSuchIsBad() {
        MeshLines x = new MeshLines(2, 3);
        Check.due("home(7, 3)", x.home(7, 3), 0);
        int[][] none = {
            {-1, 0}, {8, 0}, {0, -1}, {0, 4}, {Integer.MIN_VALUE, 0}, {Integer.MAX_VALUE, 0},
            {0, Integer.MIN_VALUE}, {0, Integer.MAX_VALUE},
        };
        for (int[] w : none) {
            Check.due("home(" + w[0] + ", " + w[1] + ")", x.home(w[0], w[1]), MeshLines.BAD);
        }
    }
}
