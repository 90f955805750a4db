/** All promises: over many seeded runs the program tells in every cycle what the plain model tells. */
public final class ModelTest {
    private static final int SEEDS = 240;
    private static final int CYCLES = 500;

    public static void main(String[] args) {
        for (int seed = 0; seed < SEEDS; seed++) {
            int depth = seed % 6;
            int flits = 1 + seed / 6 % 6;
            follow(seed, depth, flits);
        }
        Check.end();
    }

    private static void follow(int seed, int depth, int flits) {
        MeshLines x = new MeshLines(depth, flits);
        PlainModel model = new PlainModel(depth, flits);
        Programs.fill(x, seed, 60);
        Programs.fill(model, seed, 60);
        Seen.Face face = Seen.faceOf(x);
        for (int i = 0; i < CYCLES; i++) {
            String where = "seed " + seed + ", cycle " + (i + 1);
            Check.due(where + ": run(1)", x.run(1), model.run(1));
            Seen.compare(where, face, model);
            if (i == CYCLES / 2) {
                Programs.fill(x, seed + SEEDS, 10);
                Programs.fill(model, seed + SEEDS, 10);
            }
        }
        for (int i = 0; i < 100; i++) {
            x.run(100);
            model.run(100);
        }
        Seen.compare("seed " + seed + ", at the end", face, model);
    }
}
