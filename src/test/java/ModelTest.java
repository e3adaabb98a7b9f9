/** Many runs of 512 calls, made from fixed seeds, each answer compared with the model's. */
public final class ModelTest {
    private static final int RUNS = 4000;
    private static final int CALLS = 512;
    private static final int[] EDGES = {0, 1, -1, 8, Integer.MIN_VALUE, Integer.MAX_VALUE};
    private long seed;

    private ModelTest(long seed) {
        this.seed = seed;
    }

    public static void main(String[] args) {
        for (int run = 1; run <= RUNS && Check.allDue(); run++) {
            new ModelTest(run).run(run);
        }
        Check.end("ModelTest");
    }

    private void run(int run) {
        FlashVolumes x = new FlashVolumes();
        Model y = new Model();
        // The model knows neither rest nor fail: in every other run one of them stands before each call.
        boolean unseen = run % 2 == 0;
        for (int n = 1; n <= CALLS && Check.allDue(); n++) {
            if (unseen && n % 2 == 1) {
                unseen(x);
            } else {
                call("run " + run + ", call " + n + ": ", x, y);
            }
        }
    }

    private void call(String at, FlashVolumes x, Model y) {
        int b = block();
        int c = block();
        int word = word();
        switch (below(20)) {
            case 0, 1, 2 -> Check.due(at + "draft(" + word + ")", x.draft(word), y.draft(word));
            case 3, 4, 5 -> Check.due(at + "append(" + b + ", " + word + ")", x.append(b, word), y.append(b, word));
            case 6, 7 -> Check.due(at + "change(" + b + ")", x.change(b), y.change(b));
            case 8 -> Check.due(at + "drop(" + b + ")", x.drop(b), y.drop(b));
            case 9, 10 -> Check.due(at + "swap(" + b + ", " + c + ")", x.swap(b, c), y.swap(b, c));
            case 11 -> Check.due(at + "size(" + b + ")", x.size(b), y.size(b));
            case 12, 13 -> {
                int i = below(10) == 0 ? EDGES[below(EDGES.length)] : below(5);
                Check.due(at + "read(" + b + ", " + i + ")", x.read(b, i), y.read(b, i));
            }
            case 14, 15 -> {
                int k = below(4) == 0 ? below(44) - 2 : below(13);
                Check.due(at + "cutAfter(" + k + ")", x.cutAfter(k), y.cutAfter(k));
            }
            case 16 -> Check.due(at + "digest()", x.digest(), y.digest());
            case 17 -> Check.due(at + "drafted()", x.drafted(), y.drafted());
            case 18 -> Check.due(at + "cancel()", x.cancel(), y.cancel());
            default -> unanswered(x, y);
        }
    }

    private void unanswered(FlashVolumes x, Model y) {
        switch (below(4)) {
            case 0 -> {
                x.scrap();
                y.scrap();
            }
            case 1 -> {
                x.restart();
                y.restart();
            }
            default -> unseen(x);
        }
    }

    private void unseen(FlashVolumes x) {
        switch (below(3)) {
            case 0 -> x.fail();
            case 1 -> x.rest(below(24) - 2);
            default -> x.rest(EDGES[below(EDGES.length)]);
        }
    }

    private int block() {
        return below(25) == 0 ? EDGES[below(EDGES.length)] : below(8);
    }

    private int word() {
        return below(6) == 0 ? EDGES[below(EDGES.length)] : next();
    }

    private int below(int bound) {
        return Integer.remainderUnsigned(next(), bound);
    }

    // A fixed rule instead of a random source: a run that fails, fails again.
    private int next() {
        seed = seed * 6364136223846793005L + 1442695040888963407L;
        return (int) (seed >>> 32);
    }
}
