/** Every count against every call that does steps: it is cut just if it would do more, and then has no effect. */
public final class CutTest {
    private static final int CUT = -9;
    private static final int NONE = -4;
    private static final int APPEND = 0;
    private static final int CHANGE = 1;
    private static final int DROP = 2;
    private static final int SWAP = 3;

    private CutTest() {
    }

    public static void main(String[] args) {
        for (int had = 0; had <= 4; had++) {
            for (int other = 0; other <= 4; other++) {
                for (int drafted = 0; drafted <= 4; drafted++) {
                    for (int k = 0; k <= 40; k++) {
                        oneOfEach(had, other, drafted, k);
                    }
                }
            }
        }
        Check.end("CutTest");
    }

    private static void oneOfEach(int had, int other, int drafted, int k) {
        if (had < 4) {
            one(APPEND, had == 0 ? 2 : 1, had + 1, had, other, drafted, k);
        }
        if (had > 0) {
            one(DROP, 1, had, had, other, drafted, k);
        }
        one(CHANGE, drafted + 2, drafted, had, other, drafted, k);
        one(SWAP, had + other + 3, 0, had, other, drafted, k);
    }

    private static void one(int call, int steps, int answer, int had, int other, int drafted, int k) {
        FlashVolumes x = Check.filled(had, 3, other);
        for (int i = 0; i < drafted; i++) {
            x.draft(70 + i);
        }
        x.cutAfter(k);
        String told = "call " + call + ", sizes " + had + " and " + other + ", draft " + drafted + ", count " + k;
        if (steps <= k) {
            Check.due(told, made(x, call), answer);
            Check.due(told + ": drafted()", x.drafted(), call == CHANGE ? 0 : drafted);
            Check.due(told + ": cancel()", x.cancel(), k - steps);
            return;
        }
        Check.due(told, made(x, call), CUT);
        Check.due(told + ": drafted()", x.drafted(), 0);
        Check.stillFilled(told, x, had, 3, other);
        Check.due(told + ": cancel()", x.cancel(), NONE);
        Check.due(told + ": the power is back", x.swap(0, 1), 0);
    }

    private static int made(FlashVolumes x, int call) {
        switch (call) {
            case APPEND:
                return x.append(0, 9);
            case CHANGE:
                return x.change(0);
            case DROP:
                return x.drop(0);
            default:
                return x.swap(0, 2);
        }
    }
}
