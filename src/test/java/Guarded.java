/**
 * A MeshLines for 512 calls. What later calls answer is free, so a test that makes one is wrong
 * itself: it ends here.
 */
final class Guarded implements Face {
    static final int MOST_CALLS = 512;
    private final MeshLines x;
    private int calls;

    Guarded(int depth, int flits) {
        x = new MeshLines(depth, flits);
    }

    private MeshLines use() {
        calls++;
        if (calls > MOST_CALLS) {
            throw new IllegalStateException("the test uses an object for more than 512 calls");
        }
        return x;
    }

    int callsLeft() {
        return MOST_CALLS - calls;
    }

    @Override
    public int operation(int n, int kind, int line, int value, int delay) {
        return use().operation(n, kind, line, value, delay);
    }

    @Override
    public int run(int n) {
        return use().run(n);
    }

    @Override
    public int result(int n, int k) {
        return use().result(n, k);
    }

    @Override
    public int done(int n) {
        return use().done(n);
    }

    @Override
    public int cache(int n, int l, int what) {
        return use().cache(n, l, what);
    }

    @Override
    public int home(int l, int what) {
        return use().home(l, what);
    }

    @Override
    public int buffer(int n, int port, int channel) {
        return use().buffer(n, port, channel);
    }

    @Override
    public int held(int n, int output, int channel) {
        return use().held(n, output, channel);
    }

    @Override
    public int count(int what) {
        return use().count(what);
    }
}
