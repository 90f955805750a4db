/** Promise 1: the nearest numbers for DEPTH and FLITS, and all is empty in cycle 0. */
public final class NewObjectTest {
    public static void main(String[] args) {
        allIsEmpty(new MeshLines(2, 3));
        allIsEmpty(new MeshLines(Integer.MIN_VALUE, Integer.MAX_VALUE));
        depthIsTheNearest();
        flitsAreTheNearest();
        objectsAreApart();
        Check.end();
    }

    private static void allIsEmpty(MeshLines x) {
        Check.due("run(0)", x.run(0), 0);
        for (int n = 0; n < 6; n++) {
            Check.due("done", x.done(n), 0);
            Check.due("result", x.result(n, 0), 0);
            for (int l = 0; l < 8; l++) {
                for (int what = 0; what < 4; what++) {
                    Check.due("cache", x.cache(n, l, what), 0);
                    Check.due("home", x.home(l, what), 0);
                }
            }
            for (int c = 0; c < 3; c++) {
                for (int port = 0; port < 7; port++) {
                    Check.due("buffer", x.buffer(n, port, c), 0);
                }
                for (int output = 0; output < 5; output++) {
                    Check.due("held", x.held(n, output, c), 0);
                }
            }
        }
        for (int what = 0; what < 3; what++) {
            Check.due("count", x.count(what), 0);
        }
    }

    /** Most flits ever seen in a buffer in a busy run. */
    private static int fullest(int depth) {
        MeshLines x = new MeshLines(depth, 5);
        Programs.crowd(x);
        int most = 0;
        for (int i = 0; i < 400; i++) {
            x.run(1);
            most = Math.max(most, Seen.fullestBuffer(x));
        }
        return most;
    }

    private static void depthIsTheNearest() {
        Check.due("depth 1", fullest(1), 1);
        Check.due("depth 2", fullest(2), 2);
        Check.due("depth 3", fullest(3), 3);
        Check.due("depth 4", fullest(4), 4);
        Check.due("depth 5", fullest(5), 4);
        Check.due("depth 0", fullest(0), 1);
        Check.due("depth -7", fullest(-7), 1);
        Check.due("the greatest depth", fullest(Integer.MAX_VALUE), 4);
    }

    /** The flits over links of a GETM of node 1 to node 0 (one) and its DATA back. */
    private static int overLinks(int flits) {
        MeshLines x = new MeshLines(2, flits);
        x.operation(1, 1, 0, 7, 0);
        x.run(50);
        return x.count(2);
    }

    private static void flitsAreTheNearest() {
        Check.due("flits 2", overLinks(2), 3);
        Check.due("flits 3", overLinks(3), 4);
        Check.due("flits 4", overLinks(4), 5);
        Check.due("flits 5", overLinks(5), 6);
        Check.due("flits 1", overLinks(1), 3);
        Check.due("flits -1", overLinks(-1), 3);
        Check.due("flits 6", overLinks(6), 6);
        Check.due("the least flits", overLinks(Integer.MIN_VALUE), 3);
    }

    private static void objectsAreApart() {
        MeshLines x = new MeshLines(2, 3);
        x.operation(0, 1, 0, 7, 0);
        x.run(40);
        allIsEmpty(new MeshLines(2, 3));
    }
}
