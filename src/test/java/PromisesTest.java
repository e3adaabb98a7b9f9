/** Promises 1 to 17, one method each: ordinary inputs, the document's edges, wrong inputs. */
public final class PromisesTest {
    private static final int BAD_ARG = -1;
    private static final int FULL = -2;
    private static final int NONE = -4;
    private static final int CUT = -9;
    private static final int[] NOT_BLOCKS = {-1, 8, 9, -8, 1 << 30, Integer.MIN_VALUE, Integer.MAX_VALUE};

    private PromisesTest() {
    }

    public static void main(String[] args) {
        constants();
        newObject();
        draft();
        scrap();
        append();
        change();
        drop();
        swap();
        size();
        read();
        cutAfter();
        cancel();
        restart();
        drafted();
        digest();
        rest();
        fail();
        orderAndLimits();
        badBlocksChangeNothing();
        objectsAreApart();
        Check.end("PromisesTest");
    }

    private static void constants() {
        Check.due("BAD_ARG", FlashVolumes.BAD_ARG, BAD_ARG);
        Check.due("FULL", FlashVolumes.FULL, FULL);
        Check.due("NONE", FlashVolumes.NONE, NONE);
        Check.due("CUT", FlashVolumes.CUT, CUT);
    }

    private static void newObject() {
        FlashVolumes x = new FlashVolumes();
        Check.stillFilled("1 new", x);
        Check.due("1 digest()", x.digest(), 0);
        Check.due("1 drafted()", x.drafted(), 0);
        Check.due("1 cancel()", x.cancel(), NONE);
        Check.draftIs("1 new", new FlashVolumes());
    }

    private static void draft() {
        FlashVolumes x = Check.filled(2, 1);
        x.cutAfter(0);
        Check.due("2 draft(5)", x.draft(5), 1);
        Check.due("2 draft(0)", x.draft(0), 2);
        Check.due("2 draft(MIN)", x.draft(Integer.MIN_VALUE), 3);
        Check.due("2 draft(-7)", x.draft(-7), 4);
        Check.due("2 draft(9), full", x.draft(9), FULL);
        Check.due("2 draft(9), full again", x.draft(9), FULL);
        Check.due("2 cancel(): drafting does no steps", x.cancel(), 0);
        Check.stillFilled("2 drafting", x, 2, 1);
        Check.draftIs("2 full draft", x, 5, 0, Integer.MIN_VALUE, -7);
        Check.due("2 draft(3) after a change", x.draft(3), 1);
        Check.draftIs("2 second draft", x, 3);
    }

    private static void scrap() {
        FlashVolumes x = Check.filled(3);
        x.cutAfter(4);
        x.scrap();
        Check.due("3 drafted(), empty scrapped", x.drafted(), 0);
        x.draft(1);
        x.draft(2);
        x.scrap();
        Check.due("3 drafted(), two scrapped", x.drafted(), 0);
        Check.due("3 cancel(): the cut stays", x.cancel(), 4);
        Check.stillFilled("3 scrap", x, 3);
        Check.due("3 draft(8)", x.draft(8), 1);
        Check.draftIs("3 after scrap", x, 8);
    }

    private static void append() {
        for (int b = 0; b < 8; b++) {
            FlashVolumes x = new FlashVolumes();
            x.draft(77);
            x.cutAfter(40);
            Check.due("4 append to empty " + b, x.append(b, 10), 1);
            Check.due("4 steps to empty", x.cancel(), 38);
            x.cutAfter(40);
            Check.due("4 append second", x.append(b, Integer.MAX_VALUE), 2);
            Check.due("4 append third", x.append(b, Integer.MIN_VALUE), 3);
            Check.due("4 append fourth", x.append(b, 0), 4);
            Check.due("4 append to full", x.append(b, 50), FULL);
            Check.due("4 one step each, none refused", x.cancel(), 37);
            Check.block("4 full", x, b, 10, Integer.MAX_VALUE, Integer.MIN_VALUE, 0);
            for (int other = 0; other < 8; other++) {
                Check.due("4 size of another", x.size(other), other == b ? 4 : 0);
            }
            Check.due("4 drafted()", x.drafted(), 1);
            x.drop(b);
            x.cutAfter(40);
            Check.due("4 append after drop", x.append(b, 60), 1);
            Check.due("4 steps after drop", x.cancel(), 38);
            Check.block("4 after drop", x, b, 60);
        }
        FlashVolumes full = Check.filled(4);
        full.draft(1);
        full.cutAfter(0);
        Check.due("4 full comes before the cut", full.append(0, 9), FULL);
        Check.due("4 the cut is still set", full.cancel(), 0);
        Check.draftIs("4 full", full, 1);
    }

    private static void change() {
        for (int had = 0; had <= 4; had++) {
            for (int words = 0; words <= 4; words++) {
                FlashVolumes x = Check.filled(1, had, 2);
                int[] want = new int[words];
                for (int i = 0; i < words; i++) {
                    want[i] = -5 - i;
                    x.draft(want[i]);
                }
                x.cutAfter(40);
                Check.due("5 change(1)", x.change(1), words);
                Check.due("5 steps are words and 2", x.cancel(), 40 - words - 2);
                Check.block("5 changed", x, 1, want);
                Check.block("5 beside", x, 0, 1);
                Check.block("5 beside", x, 2, 201, 202);
                Check.due("5 drafted()", x.drafted(), 0);
                x.draft(6);
                Check.block("5 a later draft is apart", x, 1, want);
            }
        }
    }

    private static void drop() {
        for (int had = 0; had <= 4; had++) {
            FlashVolumes x = Check.filled(1, had, 2);
            x.draft(3);
            x.cutAfter(40);
            Check.due("6 drop(1)", x.drop(1), had == 0 ? NONE : had);
            Check.due("6 one step, none refused", x.cancel(), had == 0 ? 40 : 39);
            Check.stillFilled("6 dropped", x, 1, 0, 2);
            Check.due("6 drop(1) again", x.drop(1), NONE);
            Check.draftIs("6 drop", x, 3);
        }
        FlashVolumes x = new FlashVolumes();
        x.draft(1);
        x.cutAfter(0);
        Check.due("6 none comes before the cut", x.drop(0), NONE);
        Check.due("6 the cut is still set", x.cancel(), 0);
        Check.due("6 the draft stays", x.drafted(), 1);
    }

    private static void swap() {
        for (int first = 0; first <= 4; first++) {
            for (int second = 0; second <= 4; second++) {
                FlashVolumes x = Check.filled(1, first, 2, second);
                x.draft(3);
                x.cutAfter(40);
                Check.due("7 swap(1, 3)", x.swap(1, 3), 0);
                Check.due("7 steps are both sizes and 3", x.cancel(), 40 - first - second - 3);
                Check.due("7 size(1)", x.size(1), second);
                Check.due("7 size(3)", x.size(3), first);
                for (int i = 0; i < 4; i++) {
                    Check.due("7 read(1, i)", x.read(1, i), i < second ? 300 + i + 1 : 0);
                    Check.due("7 read(3, i)", x.read(3, i), i < first ? 100 + i + 1 : 0);
                }
                Check.due("7 swap(3, 1)", x.swap(3, 1), 0);
                Check.stillFilled("7 swapped back", x, 1, first, 2, second);
                Check.draftIs("7 swap", x, 3);
            }
        }
        for (int b = 0; b < 8; b++) {
            FlashVolumes x = Check.filled(1, 2, 3, 4, 0, 1, 2, 3);
            x.draft(3);
            x.cutAfter(0);
            Check.due("7 swap with itself", x.swap(b, b), 0);
            Check.due("7 no steps with itself", x.cancel(), 0);
            Check.stillFilled("7 with itself", x, 1, 2, 3, 4, 0, 1, 2, 3);
            Check.due("7 the draft stays", x.drafted(), 1);
        }
    }

    private static void size() {
        FlashVolumes x = Check.filled(0, 1, 2, 3, 4, 3, 2, 1);
        int[] want = {0, 1, 2, 3, 4, 3, 2, 1};
        x.cutAfter(0);
        for (int b = 0; b < 8; b++) {
            Check.due("8 size(" + b + ")", x.size(b), want[b]);
        }
        for (int b : NOT_BLOCKS) {
            Check.due("8 size(" + b + ")", x.size(b), BAD_ARG);
        }
        Check.due("8 no steps", x.cancel(), 0);
    }

    private static void read() {
        FlashVolumes x = Check.filled(4, 0, 2, 4, 4, 1, 3, 4);
        x.cutAfter(0);
        Check.stillFilled("9", x, 4, 0, 2, 4, 4, 1, 3, 4);
        int[] notWords = {-1, 4, 5, -4, 1 << 30, Integer.MIN_VALUE, Integer.MAX_VALUE};
        for (int b = 0; b < 8; b++) {
            for (int i : notWords) {
                Check.due("9 read(" + b + ", " + i + ")", x.read(b, i), 0);
            }
        }
        for (int b : NOT_BLOCKS) {
            for (int i = -1; i < 5; i++) {
                Check.due("9 read(" + b + ", " + i + ")", x.read(b, i), 0);
            }
        }
        Check.due("9 no steps", x.cancel(), 0);
        x.drop(0);
        Check.due("9 a dropped word", x.read(0, 0), 0);
        x.draft(5);
        x.change(3);
        Check.block("9 changed to fewer words", x, 3, 5);
    }

    private static void cutAfter() {
        for (int k = 0; k <= 40; k++) {
            FlashVolumes x = new FlashVolumes();
            Check.due("10 cutAfter(" + k + ")", x.cutAfter(k), 0);
            Check.due("10 cancel()", x.cancel(), k);
        }
        int[] notCounts = {-1, 41, 42, -40, Integer.MIN_VALUE, Integer.MAX_VALUE};
        for (int k : notCounts) {
            FlashVolumes x = new FlashVolumes();
            Check.due("10 cutAfter(" + k + ")", x.cutAfter(k), BAD_ARG);
            Check.due("10 none is set", x.cancel(), NONE);
            x.cutAfter(6);
            Check.due("10 cutAfter(" + k + ")", x.cutAfter(k), BAD_ARG);
            Check.due("10 the old one stays", x.cancel(), 6);
        }
        FlashVolumes x = Check.filled(1, 2);
        x.draft(4);
        x.cutAfter(3);
        Check.due("10 a greater count", x.cutAfter(20), 0);
        Check.due("10 a smaller count", x.cutAfter(1), 0);
        Check.stillFilled("10", x, 1, 2);
        Check.due("10 the draft stays", x.drafted(), 1);
        Check.due("10 append, the last step", x.append(0, 2), 2);
        Check.due("10 append, cut", x.append(0, 3), CUT);
        Check.due("10 append, power is back", x.append(0, 3), 3);
        Check.due("10 no cut is set", x.cancel(), NONE);
        Check.stillFilled("10 after the cut", x, 3, 2);
    }

    private static void cancel() {
        FlashVolumes x = Check.filled(2, 3);
        Check.due("11 none set", x.cancel(), NONE);
        x.draft(4);
        x.cutAfter(2);
        x.append(0, 3);
        Check.due("11 the count that is left", x.cancel(), 1);
        Check.due("11 none set any more", x.cancel(), NONE);
        Check.due("11 the draft stays", x.drafted(), 1);
        Check.due("11 more steps than the count was", x.swap(0, 1), 0);
        x.swap(0, 1);
        x.cutAfter(0);
        Check.due("11 a count of 0 is set", x.cancel(), 0);
        Check.due("11 and then none", x.cancel(), NONE);
        Check.stillFilled("11", x, 3, 3);
    }

    private static void restart() {
        FlashVolumes x = Check.filled(4, 3, 2, 1, 0, 1, 2, 3);
        x.restart();
        Check.due("12 no cut before or after", x.cancel(), NONE);
        x.draft(4);
        x.draft(5);
        x.cutAfter(0);
        x.restart();
        Check.due("12 the draft is empty", x.drafted(), 0);
        Check.due("12 no cut is set", x.cancel(), NONE);
        Check.stillFilled("12", x, 4, 3, 2, 1, 0, 1, 2, 3);
        x.cutAfter(0);
        x.restart();
        Check.due("12 no cut comes", x.drop(0), 4);
        Check.due("12 draft(6)", x.draft(6), 1);
        Check.draftIs("12 a new draft", x, 6);
    }

    private static void drafted() {
        FlashVolumes x = Check.filled(1);
        x.cutAfter(0);
        for (int n = 0; n <= 4; n++) {
            Check.due("13 drafted()", x.drafted(), n);
            x.draft(n);
        }
        Check.due("13 drafted(), full", x.drafted(), 4);
        Check.due("13 no steps", x.cancel(), 0);
        Check.draftIs("13", x, 0, 1, 2, 3);
        Check.due("13 drafted(), changed", x.drafted(), 0);
    }

    private static void digest() {
        for (int b = 0; b < 8; b++) {
            FlashVolumes x = new FlashVolumes();
            int want = 0;
            for (int i = 0; i < 4; i++) {
                int word = 1000003 * (i + 1) * (b + 7) * (i % 2 == 0 ? 1 : -1) * 431;
                want += (4 * b + i + 1) * word;
                x.append(b, word);
                x.draft(5);
                x.cutAfter(0);
                Check.due("14 digest()", x.digest(), want);
                Check.due("14 no steps", x.cancel(), 0);
            }
            x.drop(b);
            Check.due("14 digest(), dropped", x.digest(), 0);
        }
        FlashVolumes x = new FlashVolumes();
        x.append(7, Integer.MAX_VALUE);
        x.append(7, Integer.MAX_VALUE);
        // (29 + 30) (2^31 - 1) is 59 times 2^31, less 59; an odd multiple of 2^31 wraps to 2^31.
        Check.due("14 wraps", x.digest(), Integer.MAX_VALUE - 58);
        x.append(0, Integer.MIN_VALUE);
        Check.due("14 wraps again", x.digest(), -59);
        FlashVolumes shorter = Check.filled(4);
        shorter.draft(9);
        shorter.change(0);
        Check.due("14 no words past the size", shorter.digest(), 9);
    }

    private static void rest() {
        int[] times = {Integer.MIN_VALUE, -1, 0, 1, 2, 19, 20, 21, Integer.MAX_VALUE};
        for (int n : times) {
            FlashVolumes x = Check.filled(4, 3, 2, 1, 0, 1, 2);
            x.rest(n);
            Check.due("15 no cut is set", x.cancel(), NONE);
            x.draft(8);
            x.draft(9);
            x.cutAfter(5);
            x.rest(n);
            Check.due("15 the count stays", x.cancel(), 5);
            Check.stillFilled("15 rest(" + n + ")", x, 4, 3, 2, 1, 0, 1, 2);
            Check.draftIs("15 rest(" + n + ")", x, 8, 9);
            x.cutAfter(0);
            x.rest(n);
            Check.due("15 a count of 0 stays", x.cancel(), 0);
        }
    }

    private static void fail() {
        FlashVolumes x = Check.filled(4, 3, 2, 1, 0, 1, 2);
        x.fail();
        Check.due("16 no cut is set", x.cancel(), NONE);
        x.draft(8);
        x.cutAfter(5);
        x.fail();
        x.fail();
        x.rest(20);
        Check.due("16 the count stays", x.cancel(), 5);
        Check.stillFilled("16", x, 4, 3, 2, 1, 0, 1, 2);
        Check.draftIs("16", x, 8);
        for (int n = 0; n < 24; n++) {
            x.fail();
            x.draft(n);
            x.cutAfter(3);
            Check.due("16 change after fail", x.change(n % 8), 1);
            Check.due("16 its steps", x.cancel(), 0);
            Check.block("16", x, n % 8, n);
        }
        for (int b = 0; b < 8; b++) {
            x.fail();
            Check.due("16 append after fail", x.append(b, 1), 2);
            x.fail();
            Check.due("16 swap after fail", x.swap(b, 7 - b), 0);
            x.fail();
            Check.due("16 swap back after fail", x.swap(7 - b, b), 0);
            x.fail();
            Check.due("16 drop after fail", x.drop(b), 2);
            x.fail();
            Check.due("16 append to empty after fail", x.append(b, 5), 1);
            Check.block("16", x, b, 5);
        }
    }

    private static void orderAndLimits() {
        for (int had = 0; had <= 4; had++) {
            FlashVolumes x = Check.filled(had, 1);
            x.cutAfter(1);
            Check.due("17 change, empty draft, cut", x.change(0), CUT);
            Check.stillFilled("17 cut", x, had, 1);
            x.cutAfter(2);
            Check.due("17 change, empty draft", x.change(0), 0);
            Check.due("17 two steps", x.cancel(), 0);
            Check.stillFilled("17 changed", x, 0, 1);
        }
    }

    private static void badBlocksChangeNothing() {
        for (int bad : NOT_BLOCKS) {
            FlashVolumes x = Check.filled(4, 3, 2, 1, 0, 1, 2);
            x.draft(8);
            x.cutAfter(0);
            Check.due("append(" + bad + ", 1)", x.append(bad, 1), BAD_ARG);
            Check.due("change(" + bad + ")", x.change(bad), BAD_ARG);
            Check.due("drop(" + bad + ")", x.drop(bad), BAD_ARG);
            Check.due("swap(0, " + bad + ")", x.swap(0, bad), BAD_ARG);
            Check.due("swap(" + bad + ", 0)", x.swap(bad, 0), BAD_ARG);
            Check.due("swap(" + bad + ", " + bad + ")", x.swap(bad, bad), BAD_ARG);
            Check.due("swap(" + bad + ", 8)", x.swap(bad, 8), BAD_ARG);
            Check.due("the count stays", x.cancel(), 0);
            Check.stillFilled("bad block " + bad, x, 4, 3, 2, 1, 0, 1, 2);
            Check.draftIs("bad block " + bad, x, 8);
        }
    }

    private static void objectsAreApart() {
        FlashVolumes x = new FlashVolumes();
        FlashVolumes y = Check.filled(1, 2);
        y.draft(1);
        y.cutAfter(0);
        Check.due("another's draft", x.drafted(), 0);
        Check.due("another's cut", x.cancel(), NONE);
        Check.stillFilled("another's blocks", x);
    }
}
