/** Each sentence of promises 1 to 17 that names a boundary case, in a method of its own. */
public final class CallsEdgesTest {
    private static final int BAD_ARG = Scene.BAD_ARG;
    private static final int FULL = Scene.FULL;
    private static final int NONE = Scene.NONE;
    private static final int CUT = Scene.CUT;
    private static final int NO_CUT = Scene.NO_CUT;
    private static final int MIN = Integer.MIN_VALUE;
    private static final int MAX = Integer.MAX_VALUE;

    private CallsEdgesTest() {
    }

    public static void main(String[] args) {
        Check.each(
            CallsEdgesTest::newIsEmptyAndUncut,
            CallsEdgesTest::draftFullIfFour,
            CallsEdgesTest::draftAnswersItsWords,
            CallsEdgesTest::scrapEmptiesTheDraft,
            CallsEdgesTest::appendSteps,
            CallsEdgesTest::appendFullIfFour,
            CallsEdgesTest::changeLeavesAnEmptyDraft,
            CallsEdgesTest::changeSteps,
            CallsEdgesTest::changeWithAnEmptyDraft,
            CallsEdgesTest::dropOneStep,
            CallsEdgesTest::dropNoneIfEmpty,
            CallsEdgesTest::swapSteps,
            CallsEdgesTest::swapWithItself,
            CallsEdgesTest::sizeOfBlock,
            CallsEdgesTest::readNoWord,
            CallsEdgesTest::cutAfterWhateverWasSet,
            CallsEdgesTest::cutAfterNot0To40,
            CallsEdgesTest::cancelAnswersTheCount,
            CallsEdgesTest::cancelNone,
            CallsEdgesTest::restartEmptiesAndUnsets,
            CallsEdgesTest::draftedWords,
            CallsEdgesTest::digestWraps,
            CallsEdgesTest::restTimes,
            CallsEdgesTest::nextErasingFails,
            CallsEdgesTest::changeOfEmptyToEmpty);
        Check.end("CallsEdgesTest");
    }

    private static void newIsEmptyAndUncut() {
        Check.sentence("1", "All blocks and the draft are empty; no cut is set.");
        FlashVolumes x = new FlashVolumes();
        Check.stillFilled("new", x);
        Check.due("drafted()", x.drafted(), 0);
        Check.due("cancel()", x.cancel(), NONE);
        FlashVolumes uncut = new FlashVolumes();
        for (int n = 0; n < 20; n++) {
            Check.due("swap(0, 7): more than 40 steps in all", uncut.swap(0, 7), 0);
        }
        Check.due("change(0): the draft is empty", new FlashVolumes().change(0), 0);
        for (int b = 0; b <= 7; b++) {
            Check.due("drop(" + b + ")", new FlashVolumes().drop(b), NONE);
        }
    }

    private static void draftFullIfFour() {
        Check.sentence("2", "FULL if it has four.");
        FlashVolumes x = Scene.made(3, 0);
        Check.due("draft to three", x.draft(-73), 4);
        Check.due("draft to four", x.draft(5), FULL);
        Check.due("draft to four again", x.draft(6), FULL);
        Scene.allStays("a full draft", x, 4, 0);
        Check.due("draft after the change", x.draft(7), 1);
        FlashVolumes scrapped = Scene.made(4, NO_CUT);
        scrapped.scrap();
        Check.due("draft after scrap", scrapped.draft(7), 1);
        FlashVolumes cut = Scene.made(4, 0);
        cut.drop(1);
        Check.due("draft after a cut", cut.draft(7), 1);
    }

    private static void draftAnswersItsWords() {
        Check.sentence("2", "Otherwise the number of its words.");
        for (int had = 0; had <= 3; had++) {
            Check.due("draft to " + had, Scene.made(had, NO_CUT).draft(-5), had + 1);
        }
    }

    private static void scrapEmptiesTheDraft() {
        Check.sentence("3", "Empties the draft.");
        for (int had = 0; had <= 4; had++) {
            FlashVolumes x = Scene.made(had, 6);
            x.scrap();
            Check.due("drafted()", x.drafted(), 0);
            x.scrap();
            Scene.allStays("scrapped " + had, x, 0, 6);
        }
    }

    private static void appendSteps() {
        Check.sentence("4", "1 step if the block has words, 2 if it is empty.");
        for (int had = 0; had <= 3; had++) {
            int steps = had == 0 ? 2 : 1;
            for (int count = steps - 1; count <= steps + 1; count++) {
                appendWith("block of " + had + ", count " + count, Check.filled(had), had, count);
            }
        }
        for (int count = 0; count <= 3; count++) {
            FlashVolumes dropped = Check.filled(4);
            dropped.drop(0);
            appendWith("dropped block, count " + count, dropped, 0, count);
            FlashVolumes changed = Check.filled(4);
            changed.change(0);
            appendWith("block changed to empty, count " + count, changed, 0, count);
            FlashVolumes swapped = Check.filled(4, 0);
            swapped.swap(0, 1);
            appendWith("block swapped with an empty one, count " + count, swapped, 0, count);
            FlashVolumes gained = Check.filled(0, 1);
            gained.swap(0, 1);
            appendWith("block swapped with one of a word, count " + count, gained, 1, count);
            FlashVolumes cut = Check.filled(0);
            cut.cutAfter(1);
            cut.append(0, 5);
            appendWith("block whose first word was cut, count " + count, cut, 0, count);
        }
    }

    private static void appendWith(String told, FlashVolumes x, int had, int count) {
        int steps = had == 0 ? 2 : 1;
        x.cutAfter(count);
        Check.due(told + ": append", x.append(0, 9), count < steps ? CUT : had + 1);
        Check.due(told + ": size(0)", x.size(0), count < steps ? had : had + 1);
        Check.due(told + ": the word", x.read(0, had), count < steps ? 0 : 9);
        Check.due(told + ": cancel()", x.cancel(), count < steps ? NONE : count - steps);
    }

    private static void appendFullIfFour() {
        Check.sentence("4", "FULL if it has four. Otherwise the number of its words.");
        for (int b = 0; b <= 7; b++) {
            FlashVolumes x = new FlashVolumes();
            for (int had = 0; had <= 5; had++) {
                Check.due("append(" + b + ", ..) to " + had, x.append(b, had + 1), had < 4 ? had + 1 : FULL);
            }
            Check.block("full", x, b, 1, 2, 3, 4);
            x.cutAfter(0);
            Check.due("append to a full block, count 0", x.append(b, 5), FULL);
            Check.due("the cut is still set", x.cancel(), 0);
            x.swap(b, (b + 1) % 8);
            Check.due("append to the block that it left", x.append(b, 5), 1);
            Check.due("append to the block that it went to", x.append((b + 1) % 8, 5), FULL);
        }
        FlashVolumes x = Scene.made(4, NO_CUT);
        x.change(0);
        Check.due("append to a block changed to four words", x.append(0, 5), FULL);
        FlashVolumes three = Scene.made(3, NO_CUT);
        three.change(3);
        Check.due("append to a block changed to three words", three.append(3, 5), 4);
    }

    private static void changeLeavesAnEmptyDraft() {
        Check.sentence("5", "The words of block b become those of the draft, which is empty afterwards");
        for (int had = 0; had <= 4; had++) {
            for (int words = 0; words <= 4; words++) {
                String told = "block of " + had + ", draft of " + words;
                FlashVolumes x = Check.filled(had, 4);
                for (int i = 0; i < words; i++) {
                    x.draft(MIN + i);
                }
                Check.due(told + ": change(0)", x.change(0), words);
                Check.block(told, x, 0, firstOf(words));
                Check.block(told + ", beside", x, 1, 101, 102, 103, 104);
                Check.due(told + ": drafted()", x.drafted(), 0);
                Check.due(told + ": change(1)", x.change(1), 0);
                Check.block(told + ", with the draft that is left", x, 1);
            }
        }
    }

    private static int[] firstOf(int words) {
        int[] due = new int[words];
        for (int i = 0; i < words; i++) {
            due[i] = MIN + i;
        }
        return due;
    }

    private static void changeSteps() {
        Check.sentence("5", "as many steps as the draft has words, and 2");
        for (int words = 0; words <= 4; words++) {
            for (int count = words + 1; count <= words + 3; count++) {
                for (int b = 0; b <= 7; b++) {
                    String told = "draft of " + words + ", count " + count + ", block " + b;
                    FlashVolumes x = Scene.made(words, count);
                    boolean cut = count < words + 2;
                    Check.due(told, x.change(b), cut ? CUT : words);
                    Scene.countIs(told, x, cut ? NO_CUT : count - words - 2);
                    if (cut) {
                        Scene.blocksStay(told, x);
                    }
                    Check.due(told + ": drafted()", x.drafted(), 0);
                }
            }
        }
    }

    private static void changeWithAnEmptyDraft() {
        Check.sentence("5", "With an empty draft the block becomes empty. Otherwise the number of words.");
        for (int had = 0; had <= 4; had++) {
            FlashVolumes x = Check.filled(1, had, 2);
            Check.due("change(1)", x.change(1), 0);
            Check.stillFilled("never drafted", x, 1, 0, 2);
            Check.due("drop(1)", x.drop(1), NONE);
            FlashVolumes scrapped = Check.filled(1, had, 2);
            scrapped.draft(5);
            scrapped.scrap();
            Check.due("change(1), scrapped", scrapped.change(1), 0);
            Check.stillFilled("scrapped", scrapped, 1, 0, 2);
            FlashVolumes cut = Check.filled(1, had, 2);
            cut.draft(5);
            cut.cutAfter(2);
            Check.due("change(1), cut", cut.change(1), CUT);
            Check.stillFilled("cut", cut, 1, had, 2);
            Check.due("change(1), after the cut", cut.change(1), 0);
            Check.stillFilled("changed after the cut", cut, 1, 0, 2);
            FlashVolumes one = Check.filled(1, had, 2);
            one.draft(0);
            Check.due("change(1), one word, which is 0", one.change(1), 1);
            Check.block("one word", one, 1, 0);
        }
    }

    private static void dropOneStep() {
        Check.sentence("6", "Block b becomes empty: 1 step.");
        for (int had = 1; had <= 4; had++) {
            for (int count = 0; count <= 2; count++) {
                String told = "block of " + had + ", count " + count;
                FlashVolumes x = Check.filled(4, had, 4);
                x.cutAfter(count);
                Check.due(told + ": drop(1)", x.drop(1), count < 1 ? CUT : had);
                Check.due(told + ": cancel()", x.cancel(), count < 1 ? NONE : count - 1);
                Check.stillFilled(told, x, 4, count < 1 ? had : 0, 4);
            }
        }
    }

    private static void dropNoneIfEmpty() {
        Check.sentence("6", "NONE if it is empty. Otherwise the number of words it had.");
        for (int b = 0; b <= 7; b++) {
            for (int had = 0; had <= 4; had++) {
                FlashVolumes x = new FlashVolumes();
                for (int i = 0; i < had; i++) {
                    x.append(b, 0);
                }
                Check.due("drop(" + b + ") of " + had, x.drop(b), had == 0 ? NONE : had);
                Check.due("drop(" + b + ") again", x.drop(b), NONE);
            }
        }
        FlashVolumes changed = Check.filled(4);
        changed.change(0);
        Check.due("drop a block changed to empty", changed.drop(0), NONE);
        FlashVolumes swapped = Check.filled(4, 0);
        swapped.swap(0, 1);
        Check.due("drop a block swapped with an empty one", swapped.drop(0), NONE);
        Check.due("drop the other", swapped.drop(1), 4);
        FlashVolumes cut = new FlashVolumes();
        cut.cutAfter(0);
        Check.due("drop an empty block, count 0", cut.drop(0), NONE);
        Check.due("the cut is still set", cut.cancel(), 0);
        cut.cutAfter(1);
        cut.append(0, 5);
        Check.due("drop a block whose first word was cut", cut.drop(0), NONE);
    }

    private static void swapSteps() {
        Check.sentence("7",
            "Blocks b and c change their words with each other: as many steps as they have words together, "
            + "and 3");
        int[][] pairs = {{0, 1}, {1, 0}, {0, 7}, {7, 0}, {6, 7}, {3, 4}};
        for (int[] pair : pairs) {
            for (int first = 0; first <= 4; first++) {
                for (int second = 0; second <= 4; second++) {
                    int steps = first + second + 3;
                    for (int count = steps - 1; count <= steps + 1; count++) {
                        swapWith(pair[0], pair[1], first, second, count);
                    }
                }
            }
        }
    }

    private static void swapWith(int b, int c, int first, int second, int count) {
        String told = "swap(" + b + ", " + c + "), sizes " + first + " and " + second + ", count " + count;
        int[] sizes = {2, 2, 2, 2, 2, 2, 2, 2};
        sizes[b] = first;
        sizes[c] = second;
        FlashVolumes x = Check.filled(sizes);
        x.cutAfter(count);
        int steps = first + second + 3;
        Check.due(told, x.swap(b, c), count < steps ? CUT : 0);
        Check.due(told + ": cancel()", x.cancel(), count < steps ? NONE : count - steps);
        if (count < steps) {
            Check.stillFilled(told, x, sizes);
            return;
        }
        Check.due(told + ": size(b)", x.size(b), second);
        Check.due(told + ": size(c)", x.size(c), first);
        for (int i = 0; i < 5; i++) {
            Check.due(told + ": read(b, " + i + ")", x.read(b, i), i < second ? 100 * c + i + 1 : 0);
            Check.due(told + ": read(c, " + i + ")", x.read(c, i), i < first ? 100 * b + i + 1 : 0);
        }
        x.swap(c, b);
        Check.stillFilled(told + ", swapped back", x, sizes);
    }

    private static void swapWithItself() {
        Check.sentence("7", "if b is c nothing happens, in no steps. Answers 0.");
        int[] counts = {NO_CUT, 0, 1, 2, 3, 40};
        for (int b = 0; b <= 7; b++) {
            for (int count : counts) {
                String told = "swap(" + b + ", " + b + "), count " + count;
                FlashVolumes x = Scene.made(3, count);
                Check.due(told, x.swap(b, b), 0);
                Scene.allStays(told, x, 3, count);
            }
        }
        FlashVolumes alike = new FlashVolumes();
        alike.append(0, 5);
        alike.append(1, 5);
        alike.cutAfter(5);
        Check.due("swap of two blocks that are alike does steps", alike.swap(0, 1), 0);
        Check.due("cancel()", alike.cancel(), 0);
        FlashVolumes x = Scene.made(0, NO_CUT);
        Check.due("swap(8, 8) is refused", x.swap(8, 8), BAD_ARG);
        Check.due("swap(-1, -1) is refused", x.swap(-1, -1), BAD_ARG);
    }

    private static void sizeOfBlock() {
        Check.sentence("8", "The number of words of block b.");
        for (int b = 0; b <= 7; b++) {
            FlashVolumes x = new FlashVolumes();
            for (int size = 0; size <= 4; size++) {
                Check.due("size(" + b + ")", x.size(b), size);
                x.append(b, 0);
            }
            x.append(b, 0);
            Check.due("size(" + b + "), a fifth refused", x.size(b), 4);
            x.drop(b);
            Check.due("size(" + b + "), dropped", x.size(b), 0);
        }
    }

    private static void readNoWord() {
        Check.sentence("9", "Word i of block b; 0 if there is none or b is not 0 to 7.");
        for (int b = 0; b <= 7; b++) {
            for (int size = 0; size <= 4; size++) {
                // All the others are full, so that a word of a neighbour would be seen.
                int[] sizes = {4, 4, 4, 4, 4, 4, 4, 4};
                sizes[b] = size;
                FlashVolumes x = Check.filled(sizes);
                int[] edges = {MIN, -4, -1, 0, 1, 2, 3, 4, 5, 8, 1 << 30, MAX};
                for (int i : edges) {
                    int due = i >= 0 && i < size ? 100 * b + i + 1 : 0;
                    Check.due("size " + size + ", read(" + b + ", " + i + ")", x.read(b, i), due);
                }
            }
        }
        FlashVolumes full = Check.filled(4, 4, 4, 4, 4, 4, 4, 4);
        for (int bad : Scene.NOT_BLOCKS) {
            for (int i = -4; i <= 4; i++) {
                Check.due("read(" + bad + ", " + i + ")", full.read(bad, i), 0);
            }
        }
        FlashVolumes less = Check.filled(4, 4, 4, 1);
        less.drop(0);
        Check.block("dropped", less, 0);
        less.draft(8);
        less.change(1);
        Check.block("changed to one word", less, 1, 8);
        less.swap(2, 3);
        Check.block("swapped with a block of one word", less, 2, 301);
        less.append(0, 9);
        Check.block("dropped and one appended", less, 0, 9);
    }

    private static void cutAfterWhateverWasSet() {
        Check.sentence("10", "Sets the power to be cut, with the count k, whatever was set before.");
        int[] before = {NO_CUT, 0, 1, 20, 39, 40};
        int[] after = {0, 1, 20, 39, 40};
        for (int old : before) {
            for (int k : after) {
                FlashVolumes x = Scene.made(2, old);
                Check.due("cutAfter(" + k + ") after " + old, x.cutAfter(k), 0);
                Scene.allStays("cutAfter(" + k + ") after " + old, x, 2, k);
            }
        }
        FlashVolumes used = Check.filled(1);
        used.cutAfter(1);
        used.append(0, 2);
        used.cutAfter(1);
        Check.due("append, a count used up and set again", used.append(0, 3), 3);
        Check.due("append, used up", used.append(0, 4), CUT);
        used.cutAfter(0);
        Check.due("append, set again after a cut", used.append(0, 4), CUT);
    }

    private static void cutAfterNot0To40() {
        Check.sentence("10", "BAD_ARG if k is not 0 to 40. Otherwise 0.");
        int[] edges = {MIN, -40, -2, -1, 0, 1, 2, 39, 40, 41, 42, 80, 1 << 30, MAX};
        int[] before = {NO_CUT, 0, 7, 40};
        for (int k : edges) {
            boolean is = k >= 0 && k <= 40;
            for (int old : before) {
                FlashVolumes x = Scene.made(2, old);
                Check.due("cutAfter(" + k + ") after " + old, x.cutAfter(k), is ? 0 : BAD_ARG);
                Scene.allStays("cutAfter(" + k + ") after " + old, x, 2, is ? k : old);
            }
        }
    }

    private static void cancelAnswersTheCount() {
        Check.sentence("11", "No cut is set any more. Answers the count");
        for (int k = 0; k <= 40; k++) {
            FlashVolumes x = Scene.made(3, k);
            Check.due("cancel(), count " + k, x.cancel(), k);
            Check.due("no call is cut", x.swap(3, 6), 0);
            x.swap(3, 6);
            Scene.allStays("cancel(), count " + k, x, 3, NO_CUT);
        }
        FlashVolumes x = Check.filled(1);
        x.cutAfter(3);
        for (int left = 2; left >= 0; left--) {
            x.append(0, 5);
            Check.due("cancel(), " + left + " left", x.cancel(), left);
            x.cutAfter(left);
        }
        Check.due("cancel(), the count is 0 and set", x.cancel(), 0);
    }

    private static void cancelNone() {
        Check.sentence("11", "NONE if no cut was set.");
        Check.due("new", new FlashVolumes().cancel(), NONE);
        FlashVolumes x = Scene.made(1, 0);
        Check.due("a cut set", x.cancel(), 0);
        Check.due("cancelled", x.cancel(), NONE);
        x.cutAfter(0);
        x.drop(1);
        Check.due("after a cut", x.cancel(), NONE);
        x.cutAfter(40);
        x.restart();
        Check.due("after restart", x.cancel(), NONE);
        x.cutAfter(41);
        Check.due("after a refused cutAfter(41)", x.cancel(), NONE);
        x.cutAfter(-1);
        Check.due("after a refused cutAfter(-1)", x.cancel(), NONE);
        Scene.blocksStay("cancel", x);
        FlashVolumes drafted = Scene.made(4, NO_CUT);
        Check.due("none set", drafted.cancel(), NONE);
        Scene.draftStays("cancel", drafted, 4);
    }

    private static void restartEmptiesAndUnsets() {
        Check.sentence("12",
            "The power goes off and comes back at once, between two calls: the draft becomes empty; no cut "
            + "is set any more.");
        int[] counts = {NO_CUT, 0, 1, 39, 40};
        for (int count : counts) {
            for (int draft = 0; draft <= 4; draft++) {
                String told = "count " + count + ", draft " + draft;
                FlashVolumes x = Scene.made(draft, count);
                x.restart();
                Check.due(told + ": drafted()", x.drafted(), 0);
                Check.due(told + ": the power is back", x.swap(3, 6), 0);
                x.swap(3, 6);
                x.restart();
                Scene.allStays(told, x, 0, NO_CUT);
            }
        }
    }

    private static void draftedWords() {
        Check.sentence("13", "The number of words of the draft.");
        FlashVolumes x = Check.filled(4, 3);
        for (int words = 0; words <= 5; words++) {
            Check.due("drafted()", x.drafted(), words < 4 ? words : 4);
            x.draft(0);
        }
        x.change(3);
        Check.due("drafted(), changed", x.drafted(), 0);
    }

    private static void digestWraps() {
        Check.sentence("14", "The sum, wrapping, over all blocks b and their words i of (4 b + i + 1) times the word.");
        digestIs("no words", 0);
        digestIs("greatest", MAX, MAX);
        digestIs("least", MIN, MIN);
        digestIs("the sum just below 2^31", MAX, MAX - 2, 1);
        digestIs("the sum at 2^31", MIN, MAX - 1, 1);
        digestIs("the sum above 2^31", MIN + 1, MAX, 1);
        digestIs("the sum at -2^31", MIN, MIN + 2, -1);
        digestIs("the sum below -2^31", MAX, MIN + 1, -1);
        digestIs("a product just below 2^31", MAX - 1, 0, (1 << 30) - 1);
        digestIs("a product at 2^31", MIN, 0, 1 << 30);
        digestIs("a product at -2^31", MIN, 0, -(1 << 30));
        digestIs("a product below -2^31", MAX - 1, 0, -(1 << 30) - 1);
        digestIs("a product at 2^32", 0, 0, 0, 0, 1 << 30);
        for (int b = 0; b <= 7; b++) {
            FlashVolumes x = new FlashVolumes();
            for (int i = 0; i <= 3; i++) {
                x.append(b, i < 3 ? 0 : 1);
            }
            Check.due("last word of block " + b, x.digest(), 4 * b + 4);
            FlashVolumes first = new FlashVolumes();
            first.append(b, MAX);
            Check.due("first word of block " + b, first.digest(), (int) ((4L * b + 1) * MAX));
        }
        FlashVolumes all = new FlashVolumes();
        for (int n = 0; n < 32; n++) {
            all.append(n / 4, MIN + 1);
        }
        // 528 times 2^31 is a multiple of 2^32, so only 528 times 1 is left.
        Check.due("all 32 words", all.digest(), 528);
        for (int b = 0; b <= 7; b++) {
            all.drop(b);
        }
        Check.due("all dropped", all.digest(), 0);
    }

    private static void digestIs(String told, int due, int... words) {
        FlashVolumes x = new FlashVolumes();
        for (int word : words) {
            x.append(0, word);
        }
        x.draft(3);
        Check.due(told + ": digest()", x.digest(), due);
    }

    private static void restTimes() {
        Check.sentence("15", "Housekeeping, n times (none if n < 1, at most 20).");
        int[] times = {MIN, -1, 0, 1, 2, 19, 20, 21, MAX};
        int[] counts = {NO_CUT, 0, 40};
        for (int n : times) {
            for (int count : counts) {
                FlashVolumes x = Scene.made(4, count);
                x.fail();
                x.rest(n);
                x.rest(n);
                Scene.allStays("rest(" + n + "), count " + count, x, 4, count);
                FlashVolumes empty = new FlashVolumes();
                empty.rest(n);
                Check.stillFilled("rest(" + n + ") on a new object", empty);
                Check.due("rest(" + n + "): digest()", empty.digest(), 0);
            }
        }
    }

    private static void nextErasingFails() {
        Check.sentence("16", "The memory's next erasing fails.");
        for (int fails = 0; fails <= 2; fails++) {
            for (Scene.Call call : Scene.stepping()) {
                FlashVolumes x = Scene.made(call.draft(), call.steps());
                FlashVolumes same = Scene.made(call.draft(), call.steps());
                for (int n = 0; n < fails; n++) {
                    x.fail();
                }
                String told = call.name() + ", failed " + fails + " times";
                Check.due(told, call.made().applyAsInt(x), call.answer());
                call.made().applyAsInt(same);
                Check.due(told + ": cancel()", x.cancel(), 0);
                for (int b = 0; b <= 7; b++) {
                    Check.due(told + ": size(" + b + ")", x.size(b), same.size(b));
                    for (int i = 0; i < 4; i++) {
                        Check.due(told + ": read(" + b + ", " + i + ")", x.read(b, i), same.read(b, i));
                    }
                }
                FlashVolumes cut = Scene.made(call.draft(), call.steps() - 1);
                for (int n = 0; n < fails; n++) {
                    cut.fail();
                }
                Check.due(told + ", cut", call.made().applyAsInt(cut), CUT);
                Scene.allStays(told + ", cut", cut, 0, NO_CUT);
            }
        }
    }

    private static void changeOfEmptyToEmpty() {
        Check.sentence("17", "change with an empty draft does 2 steps, also for a block that is empty, and answers 0.");
        for (int b = 0; b <= 7; b++) {
            for (int had = 0; had <= 4; had++) {
                for (int count = 0; count <= 3; count++) {
                    String told = "block " + b + " of " + had + ", count " + count;
                    int[] sizes = {1, 1, 1, 1, 1, 1, 1, 1};
                    sizes[b] = had;
                    FlashVolumes x = Check.filled(sizes);
                    x.cutAfter(count);
                    Check.due(told + ": change", x.change(b), count < 2 ? CUT : 0);
                    Check.due(told + ": cancel()", x.cancel(), count < 2 ? NONE : count - 2);
                    sizes[b] = count < 2 ? had : 0;
                    Check.stillFilled(told, x, sizes);
                }
            }
        }
    }
}
