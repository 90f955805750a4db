/** Promise 3: run. */
public final class RunTest {
    public static void main(String[] args) {
        answersTheLastCycle();
        wrongNumbersAreBadAndChangeNothing();
        oneRunIsAsManyShortOnes();
        Check.end();
    }

    private static void answersTheLastCycle() {
        MeshLines x = new MeshLines(2, 3);
        Check.due("run(0)", x.run(0), 0);
        Check.due("run(1)", x.run(1), 1);
        Check.due("run(0)", x.run(0), 1);
        Check.due("run(100)", x.run(100), 101);
        Check.due("run(99)", x.run(99), 200);
        for (int i = 1; i <= 500; i++) {
            Check.due("run(100)", x.run(100), 200 + 100 * i);
        }
    }

    private static void wrongNumbersAreBadAndChangeNothing() {
        MeshLines x = new MeshLines(2, 3);
        x.operation(1, 1, 0, 7, 0);
        x.run(3);
        int[] wrong = {-1, 101, Integer.MIN_VALUE, Integer.MAX_VALUE};
        for (int n : wrong) {
            Check.due("run(" + n + ")", x.run(n), MeshLines.BAD);
        }
        Check.due("run(0)", x.run(0), 3);
        Check.due("count(1)", x.count(1), 0);
    }

    private static MeshLines busy() {
        MeshLines x = new MeshLines(1, 4);
        for (int n = 0; n < 6; n++) {
            for (int k = 0; k < 10; k++) {
                x.operation(n, (n + k) % 3, (n * 3 + k) % 8, n * 100 + k, k % 4);
            }
        }
        return x;
    }

    private static void oneRunIsAsManyShortOnes() {
        MeshLines x = busy();
        MeshLines y = busy();
        for (int i = 0; i < 8; i++) {
            x.run(50);
            for (int k = 0; k < 50; k++) {
                y.run(1);
            }
            Seen.compare("short runs", x, y);
        }
    }
}
