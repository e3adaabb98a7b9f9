public final class FlashVolumes {
    public static final int BAD_ARG = -1;
    public static final int FULL = -2;
    public static final int NONE = -4;
    public static final int CUT = -9;

    private static final int BLOCKS = 8;
    private static final int WORDS = 4;
    private static final int ALL_WORDS = 32;
    private static final int GREATEST_COUNT = 40;

    // Word i of block b lies at b * WORDS + i; what lies past a block's size is never answered.
    private final int[] words = new int[ALL_WORDS];
    private final int[] sizes = new int[BLOCKS];
    private final int[] draftWords = new int[WORDS];
    private int draftSize;
    private boolean cutIsSet;
    private int stepsLeft;

    public FlashVolumes() {
        draftSize = 0;
        cutIsSet = false;
        stepsLeft = 0;
    }

    public int draft(int word) {
        if (draftSize >= WORDS) {
            return FULL;
        }
        draftWords[draftSize] = word;
        draftSize++;
        return draftSize;
    }

    public void scrap() {
        draftSize = 0;
    }

    public int append(int b, int word) {
        if (!isBlock(b)) {
            return BAD_ARG;
        }
        int had = sizes[b];
        if (had >= WORDS) {
            return FULL;
        }
        if (powerFailsWithin(had == 0 ? 2 : 1)) {
            return CUT;
        }
        words[b * WORDS + had] = word;
        sizes[b] = had + 1;
        return had + 1;
    }

    public int change(int b) {
        if (!isBlock(b)) {
            return BAD_ARG;
        }
        if (powerFailsWithin(draftSize + 2)) {
            return CUT;
        }
        int taken = draftSize;
        for (int i = 0; i < WORDS; i++) {
            words[b * WORDS + i] = draftWords[i];
        }
        sizes[b] = taken;
        draftSize = 0;
        return taken;
    }

    public int drop(int b) {
        if (!isBlock(b)) {
            return BAD_ARG;
        }
        int had = sizes[b];
        if (had == 0) {
            return NONE;
        }
        if (powerFailsWithin(1)) {
            return CUT;
        }
        sizes[b] = 0;
        return had;
    }

    public int swap(int b, int c) {
        if (!isBlock(b) || !isBlock(c)) {
            return BAD_ARG;
        }
        if (b == c) {
            return 0;
        }
        if (powerFailsWithin(sizes[b] + sizes[c] + 3)) {
            return CUT;
        }
        exchange(b, c);
        return 0;
    }

    public int size(int b) {
        if (!isBlock(b)) {
            return BAD_ARG;
        }
        return sizes[b];
    }

    public int read(int b, int i) {
        if (!isBlock(b) || i < 0 || i >= sizes[b]) {
            return 0;
        }
        return words[b * WORDS + i];
    }

    public int cutAfter(int k) {
        if (k < 0 || k > GREATEST_COUNT) {
            return BAD_ARG;
        }
        cutIsSet = true;
        stepsLeft = k;
        return 0;
    }

    public int cancel() {
        if (!cutIsSet) {
            return NONE;
        }
        cutIsSet = false;
        return stepsLeft;
    }

    public void restart() {
        losePower();
    }

    public int drafted() {
        return draftSize;
    }

    public int digest() {
        int sum = 0;
        for (int b = 0; b < BLOCKS; b++) {
            for (int i = 0; i < sizes[b]; i++) {
                int place = b * WORDS + i;
                sum += (place + 1) * words[place];
            }
        }
        return sum;
    }

    // The document lets no other call see what housekeeping does, and these arrays need none.
    public void rest(int n) {
    }

    // The document lets no other call see a failed erasing, and these arrays are never erased.
    public void fail() {
    }

    private static boolean isBlock(int b) {
        return b >= 0 && b < BLOCKS;
    }

    // Asked before anything is written, so that a cut call leaves every block as it was.
    private boolean powerFailsWithin(int steps) {
        if (!cutIsSet) {
            return false;
        }
        if (steps > stepsLeft) {
            losePower();
            return true;
        }
        stepsLeft -= steps;
        return false;
    }

    private void losePower() {
        draftSize = 0;
        cutIsSet = false;
    }

    private void exchange(int b, int c) {
        for (int i = 0; i < WORDS; i++) {
            int word = words[b * WORDS + i];
            words[b * WORDS + i] = words[c * WORDS + i];
            words[c * WORDS + i] = word;
        }
        int size = sizes[b];
        sizes[b] = sizes[c];
        sizes[c] = size;
    }
}
