/** Promise 3: run. */
public final class RunTest {
    public static void main(String[] args) {
        noCycleIsTaken();
        oneCycleIsTaken();
        aHundredCyclesAreTaken();
        lessThanNoneIsBad();
        moreThanAHundredIsBad();
        aRefusedOneChangesNothing();
        oneRunIsAsManyShortOnes();
        Check.end();
    }

    private static Guarded asked() {
        Guarded x = new Guarded(2, 3);
        x.operation(1, Programs.STORE, 0, 7, 0);
        return x;
    }

    private static void noCycleIsTaken() {
        Guarded x = asked();
        Check.due("run(0) of a new object", x.run(0), 0);
        Check.due("nothing is sent", x.count(0), 0);
        x.run(5);
        Check.due("run(0) later", x.run(0), 5);
        Check.due("run(0) again", x.run(0), 5);
    }

    private static void oneCycleIsTaken() {
        Guarded x = asked();
        Check.due("run(1)", x.run(1), 1);
        Check.due("GETM is sent", x.count(0), 1);
        Check.due("run(1)", x.run(1), 2);
    }

    private static void aHundredCyclesAreTaken() {
        Guarded x = asked();
        Check.due("run(100)", x.run(100), 100);
        Check.due("run(99)", x.run(99), 199);
        Check.due("run(1)", x.run(1), 200);
        for (int i = 1; i <= 500; i++) {
            Check.due("run(100)", x.run(100), 200 + 100 * i);
        }
    }

    private static void lessThanNoneIsBad() {
        Guarded x = asked();
        Check.due("run(-1)", x.run(-1), MeshLines.BAD);
        Check.due("run(-100)", x.run(-100), MeshLines.BAD);
        Check.due("the least", x.run(Integer.MIN_VALUE), MeshLines.BAD);
    }

    private static void moreThanAHundredIsBad() {
        Guarded x = asked();
        Check.due("run(101)", x.run(101), MeshLines.BAD);
        Check.due("run(200)", x.run(200), MeshLines.BAD);
        Check.due("the greatest", x.run(Integer.MAX_VALUE), MeshLines.BAD);
    }

    private static void aRefusedOneChangesNothing() {
        Guarded x = asked();
        x.run(3);
        int[] wrong = {-1, 101, Integer.MIN_VALUE, Integer.MAX_VALUE};
        for (int n : wrong) {
            x.run(n);
            Check.due("the cycle", x.run(0), 3);
            Check.due("packets sent", x.count(0), 1);
            Check.due("packets arrived", x.count(1), 0);
            Check.due("the flit stays", x.buffer(0, Port.EAST, 0), 1);
        }
    }

    private static Guarded busy(int seed) {
        Guarded x = new Guarded(1, 4);
        Programs.fill(x, seed, 20);
        return x;
    }

    /** 120 operations, 170 cycles one by one, and 198 looks at each of two objects. */
    private static void oneRunIsAsManyShortOnes() {
        for (int seed = 0; seed < 12; seed++) {
            Guarded x = busy(seed);
            Guarded y = busy(seed);
            x.run(100);
            x.run(70);
            for (int k = 0; k < 170; k++) {
                y.run(1);
            }
            for (int n = 0; n < 6; n++) {
                Check.due("done", x.done(n), y.done(n));
                for (int l = 0; l < 8; l++) {
                    for (int what = 0; what < 4; what++) {
                        Check.due("cache", x.cache(n, l, what), y.cache(n, l, what));
                    }
                }
            }
            for (int what = 0; what < 3; what++) {
                Check.due("count", x.count(what), y.count(what));
            }
        }
    }
}
