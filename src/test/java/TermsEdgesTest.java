import java.util.ArrayList;
import java.util.List;

/** Each sentence of the document's head and of its "Terms", in a method of its own, at its edges. */
public final class TermsEdgesTest {
    private static final int BAD_ARG = Scene.BAD_ARG;
    private static final int FULL = Scene.FULL;
    private static final int NONE = Scene.NONE;
    private static final int CUT = Scene.CUT;
    private static final int NO_CUT = Scene.NO_CUT;
    private static final int[] CUTS = {NO_CUT, 0, 1, 39, 40};

    private TermsEdgesTest() {
    }

    public static void main(String[] args) {
        Check.each(
            TermsEdgesTest::usedFor512Calls,
            TermsEdgesTest::blocksAreNumbered0To7,
            TermsEdgesTest::blocksHave0To4Words,
            TermsEdgesTest::draftHas0To4Words,
            TermsEdgesTest::cutEmptiesTheDraft,
            TermsEdgesTest::callsThatDoSteps,
            TermsEdgesTest::countOfStepsStillDone,
            TermsEdgesTest::moreStepsThanTheCount,
            TermsEdgesTest::elseTheCountBecomesLess,
            TermsEdgesTest::restAndFailAreNotSeen,
            TermsEdgesTest::badBlockBeforeAnythingElse,
            TermsEdgesTest::noCallThrows,
            TermsEdgesTest::refusedCallChangesNothing,
            TermsEdgesTest::badArgMeans,
            TermsEdgesTest::fullMeans,
            TermsEdgesTest::noneMeans,
            TermsEdgesTest::cutMeans);
        Check.end("TermsEdgesTest");
    }

    private static void usedFor512Calls() {
        Check.sentence("head", "An object is used for at most 512 calls after it has been made");
        for (int last = 510; last <= 512; last++) {
            String at = "as call " + last + ", ";
            Check.due(at + "digest()", worn(last - 1).digest(), 29);
            Check.due(at + "read(7, 0)", worn(last - 1).read(7, 0), 1);
            Check.due(at + "size(0)", worn(last - 1).size(0), 0);
            Check.due(at + "append(7, 1)", worn(last - 1).append(7, 1), 2);
            Check.due(at + "append(0, 1)", worn(last - 1).append(0, 1), 1);
            Check.due(at + "swap(7, 6)", worn(last - 1).swap(7, 6), 0);
            Check.due(at + "change(7)", worn(last - 1).change(7), 0);
            Check.due(at + "drop(7)", worn(last - 1).drop(7), 1);
        }
    }

    /** So many calls, almost all of which write or erase block 0; then it is empty and block 7 has the word 1. */
    private static FlashVolumes worn(int calls) {
        FlashVolumes x = new FlashVolumes();
        int made = 0;
        for (; (calls - 1 - made) % 3 != 0; made++) {
            x.rest(20);
        }
        for (; made < calls - 1; made += 3) {
            x.append(0, made);
            x.fail();
            x.drop(0);
        }
        x.append(7, 1);
        return x;
    }

    private static void blocksAreNumbered0To7() {
        Check.sentence("Terms", "LOGICAL BLOCKS are numbered 0 to 7.");
        FlashVolumes x = new FlashVolumes();
        for (int b = -1; b <= 8; b++) {
            boolean is = b >= 0 && b <= 7;
            Check.due("append(" + b + ", 5)", x.append(b, 5 + b), is ? 1 : BAD_ARG);
            Check.due("size(" + b + ")", x.size(b), is ? 1 : BAD_ARG);
            Check.due("read(" + b + ", 0)", x.read(b, 0), is ? 5 + b : 0);
        }
        for (int b = -1; b <= 8; b++) {
            boolean is = b >= 0 && b <= 7;
            x.draft(30 + b);
            Check.due("change(" + b + ")", x.change(b), is ? 1 : BAD_ARG);
            x.scrap();
            Check.due("swap(" + b + ", " + b + ")", x.swap(b, b), is ? 0 : BAD_ARG);
            Check.due("swap(" + b + ", 0)", x.swap(b, 0), is ? 0 : BAD_ARG);
            Check.due("swap(0, " + b + ")", x.swap(0, b), is ? 0 : BAD_ARG);
        }
        for (int b = 0; b <= 7; b++) {
            Check.block("each has its own word", x, b, 30 + b);
        }
        for (int b = -1; b <= 8; b++) {
            Check.due("drop(" + b + ")", x.drop(b), b >= 0 && b <= 7 ? 1 : BAD_ARG);
        }
    }

    private static void blocksHave0To4Words() {
        Check.sentence("Terms",
            "A block is EMPTY (it has no words) or has 1 to 4 WORDS (ints), number 0 to its size less 1.");
        int[] ints = {Integer.MIN_VALUE, Integer.MAX_VALUE, CUT, -1};
        for (int b = 0; b <= 7; b++) {
            FlashVolumes x = new FlashVolumes();
            for (int size = 0; size <= 4; size++) {
                Check.due("size(" + b + ")", x.size(b), size);
                Check.due("read(" + b + ", -1)", x.read(b, -1), 0);
                for (int i = 0; i <= 5; i++) {
                    Check.due("size " + size + ", read(" + b + ", " + i + ")", x.read(b, i), i < size ? ints[i] : 0);
                }
                Check.due("append(" + b + ", ..)", x.append(b, size < 4 ? ints[size] : 7), size < 4 ? size + 1 : FULL);
            }
            Check.block("no fifth word", x, b, ints);
            x.drop(b);
            Check.block("empty again", x, b);
            x.append(b, 6);
            Check.block("one word again", x, b, 6);
        }
    }

    private static void draftHas0To4Words() {
        Check.sentence("Terms", "There is a DRAFT of 0 to 4 words");
        int[] ints = {Integer.MIN_VALUE, Integer.MAX_VALUE, CUT, -1};
        for (int words = 0; words <= 5; words++) {
            FlashVolumes x = new FlashVolumes();
            for (int i = 0; i < words; i++) {
                Check.due("draft(..)", x.draft(i < 4 ? ints[i] : 7), i < 4 ? i + 1 : FULL);
            }
            int kept = words < 4 ? words : 4;
            int[] due = new int[kept];
            System.arraycopy(ints, 0, due, 0, kept);
            Check.draftIs(words + " drafted", x, due);
        }
    }

    private static void cutEmptiesTheDraft() {
        Check.sentence("Terms", "when the power is cut, the draft becomes empty");
        for (int draft = 0; draft <= 4; draft++) {
            for (int call = 0; call <= 4; call++) {
                String told = "draft of " + draft + ", call " + call;
                FlashVolumes x = Scene.made(draft, 0);
                cut(told, x, call);
                Check.due(told + ": drafted()", x.drafted(), 0);
                for (int word = 1; word <= 4; word++) {
                    Check.due(told + ": draft again", x.draft(word), word);
                }
                Check.due(told + ": draft to a full one", x.draft(5), FULL);
                Check.draftIs(told + ": the new draft", x, 1, 2, 3, 4);
            }
        }
    }

    private static void cut(String told, FlashVolumes x, int call) {
        switch (call) {
            case 0 -> Check.due(told, x.append(0, 9), CUT);
            case 1 -> Check.due(told, x.change(0), CUT);
            case 2 -> Check.due(told, x.drop(1), CUT);
            case 3 -> Check.due(told, x.swap(0, 1), CUT);
            default -> x.restart();
        }
    }

    private static void callsThatDoSteps() {
        Check.sentence("Terms",
            "A call of append, change, drop or swap does STEPS, as many as said there, one after the other, "
            + "if it is not refused.");
        for (Scene.Call call : Scene.stepping()) {
            FlashVolumes x = Scene.made(call.draft(), 40);
            Check.due(call.name(), call.made().applyAsInt(x), call.answer());
            Scene.countIs(call.name(), x, 40 - call.steps());
        }
        List<Scene.Call> none = new ArrayList<>(Scene.withoutSteps());
        none.addAll(Scene.refused());
        for (Scene.Call call : none) {
            for (int count = 0; count <= 40; count += 40) {
                FlashVolumes x = Scene.made(call.draft(), count);
                Check.due(call.name(), call.made().applyAsInt(x), call.answer());
                Scene.allStays(call.name() + ", count " + count, x, call.draft(), count);
            }
        }
        FlashVolumes x = Scene.made(3, 0);
        Check.due("draft(9)", x.draft(9), 4);
        x.scrap();
        x.digest();
        x.rest(20);
        x.fail();
        Scene.countIs("draft, scrap, digest, rest, fail", x, 0);
    }

    private static void countOfStepsStillDone() {
        Check.sentence("Terms", "The power can be set to be cut: then there is a COUNT of steps that are still done.");
        for (int count = 0; count <= 40; count++) {
            FlashVolumes x = Check.filled(1);
            x.cutAfter(count);
            int done = 0;
            while (done <= 40 && oneStep(x) != CUT) {
                done++;
            }
            Check.due("steps of one done with the count " + count, done, count);
        }
        FlashVolumes x = Check.filled(1);
        int done = 0;
        while (done < 100 && oneStep(x) != CUT) {
            done++;
        }
        Check.due("with no cut set no step is cut", done, 100);
    }

    /** One call that does one step and leaves block 0 with a word. */
    private static int oneStep(FlashVolumes x) {
        if (x.size(0) < 4) {
            return x.append(0, 1);
        }
        int left = x.cancel();
        x.draft(1);
        x.change(0);
        if (left >= 0) {
            x.cutAfter(left);
        }
        return x.append(0, 1);
    }

    private static void moreStepsThanTheCount() {
        Check.sentence("Terms",
            "If a call would do more steps than the count, the power is cut in it: the call has no effect on"
            + " any block, the draft becomes empty, the power comes back at once, no cut is set any more, and "
            + "the call answers CUT.");
        for (Scene.Call call : Scene.stepping()) {
            int steps = call.steps();
            for (int count = 0; count <= steps + 1; count++) {
                String told = call.name() + ", count " + count;
                FlashVolumes x = Scene.made(call.draft(), count);
                Check.due(told, call.made().applyAsInt(x), count < steps ? CUT : call.answer());
                if (count < steps) {
                    Check.due(told + ": drafted()", x.drafted(), 0);
                    Scene.allStays(told, x, 0, NO_CUT);
                }
            }
            FlashVolumes x = Scene.made(call.draft(), steps - 1);
            call.made().applyAsInt(x);
            Check.due(call.name() + ": the power is back for a long call", x.swap(3, 6), 0);
            x.swap(3, 6);
            Scene.allStays(call.name(), x, 0, NO_CUT);
        }
    }

    private static void elseTheCountBecomesLess() {
        Check.sentence("Terms", "Else the count becomes less by the call's steps.");
        for (Scene.Call call : Scene.stepping()) {
            int[] counts = {call.steps(), call.steps() + 1, 40};
            for (int count : counts) {
                FlashVolumes x = Scene.made(call.draft(), count);
                Check.due(call.name() + ", count " + count, call.made().applyAsInt(x), call.answer());
                Scene.countIs(call.name() + ", count " + count, x, count - call.steps());
            }
            FlashVolumes x = Scene.made(call.draft(), call.steps());
            call.made().applyAsInt(x);
            Check.due(call.name() + ": used up, the next is cut", x.swap(5, 1), CUT);
            Scene.countIs(call.name() + ": and then none is set", x, NO_CUT);
        }
        FlashVolumes x = Check.filled(4, 4);
        x.cutAfter(40);
        for (int left = 40; left >= 11; left -= 11) {
            Check.due("swap(0, 1), 11 steps with " + left + " left", x.swap(0, 1), 0);
        }
        Check.due("swap(0, 1), 11 steps with 7 left", x.swap(0, 1), CUT);
        x.swap(0, 1);
        Check.stillFilled("swapped four times", x, 4, 4);
    }

    private static void restAndFailAreNotSeen() {
        Check.sentence("Terms", "What the calls rest and fail do can't be seen by any other call.");
        int[] times = {Integer.MIN_VALUE, -1, 0, 1, 20, 21, Integer.MAX_VALUE};
        for (int count : CUTS) {
            for (int draft = 0; draft <= 4; draft++) {
                FlashVolumes x = Scene.made(draft, count);
                for (int n : times) {
                    x.rest(n);
                    x.fail();
                }
                Scene.allStays("count " + count + ", draft " + draft, x, draft, count);
            }
        }
        List<Scene.Call> all = new ArrayList<>(Scene.stepping());
        all.addAll(Scene.refused());
        for (Scene.Call call : all) {
            for (int count = call.steps(); count >= 0 && count >= call.steps() - 1; count--) {
                String told = call.name() + ", count " + count;
                FlashVolumes x = Scene.made(call.draft(), count);
                x.fail();
                x.rest(1);
                x.fail();
                Check.due(told, call.made().applyAsInt(x), count < call.steps() ? CUT : call.answer());
                x.rest(20);
                Scene.countIs(told, x, count < call.steps() ? NO_CUT : 0);
            }
        }
    }

    private static void badBlockBeforeAnythingElse() {
        Check.sentence("Terms",
            "In all calls with a block but read, a block number not 0 to 7 answers BAD_ARG before anything "
            + "else.");
        for (Scene.Call call : Scene.badBlocks()) {
            for (int count : CUTS) {
                FlashVolumes x = Scene.made(call.draft(), count);
                Check.due(call.name() + ", count " + count, call.made().applyAsInt(x), BAD_ARG);
                Scene.allStays(call.name() + ", count " + count, x, call.draft(), count);
            }
            FlashVolumes empty = new FlashVolumes();
            Check.due(call.name() + ", all empty: not NONE", call.made().applyAsInt(empty), BAD_ARG);
            FlashVolumes full = Check.filled(4, 4, 4, 4, 4, 4, 4, 4);
            full.cutAfter(0);
            Check.due(call.name() + ", all full: not FULL and not CUT", call.made().applyAsInt(full), BAD_ARG);
            Check.stillFilled(call.name(), full, 4, 4, 4, 4, 4, 4, 4, 4);
        }
        FlashVolumes x = Scene.made(1, 0);
        for (int bad : Scene.NOT_BLOCKS) {
            Check.due("read(" + bad + ", 0)", x.read(bad, 0), 0);
        }
    }

    private static void noCallThrows() {
        Check.sentence("Terms", "No call ever throws.");
        int[] ints = {Integer.MIN_VALUE, -(1 << 30), -41, -9, -2, -1, 0, 1, 3, 4, 5, 7, 8, 9, 20, 21, 32, 40, 41, 1 << 29,
            1 << 30, Integer.MAX_VALUE};
        for (int a : ints) {
            for (int c : ints) {
                for (int count : CUTS) {
                    ends(a + " and " + c + " on a new object", new FlashVolumes(), a, c);
                    ends(a + " and " + c + ", count " + count, Scene.made(4, count), a, c);
                    ends(a + " and " + c + ", all full", Check.filled(4, 4, 4, 4, 4, 4, 4, 4), a, c);
                }
            }
        }
    }

    private static void ends(String told, FlashVolumes x, int a, int c) {
        try {
            x.read(a, c);
            x.size(a);
            x.append(a, c);
            x.swap(a, c);
            x.swap(c, a);
            x.rest(a);
            x.fail();
            x.change(a);
            x.drop(c);
            x.draft(c);
            x.cutAfter(c);
            x.change(a);
            x.drop(a);
            x.digest();
            x.restart();
            x.cancel();
            x.scrap();
            x.drafted();
            Check.holds(told + ": every call ends", true);
        } catch (RuntimeException | Error thrown) {
            Check.holds(told + ": " + thrown, false);
        }
    }

    private static void refusedCallChangesNothing() {
        Check.sentence("Terms", "A refused call answers the code named and changes nothing (and does no steps).");
        for (Scene.Call call : Scene.refused()) {
            for (int count : CUTS) {
                String told = call.name() + ", count " + count;
                FlashVolumes x = Scene.made(call.draft(), count);
                Check.due(told, call.made().applyAsInt(x), call.answer());
                Check.due(told + ", again", call.made().applyAsInt(x), call.answer());
                Scene.allStays(told, x, call.draft(), count);
            }
        }
        FlashVolumes x = Scene.made(4, NO_CUT);
        Check.due("cancel, no cut set", x.cancel(), NONE);
        Scene.allStays("cancel, no cut set", x, 4, NO_CUT);
    }

    private static void badArgMeans() {
        Check.sentence("Terms", "The constants: `BAD_ARG = -1`: An argument is out of its range.");
        Check.due("BAD_ARG", FlashVolumes.BAD_ARG, -1);
        for (int b = -1; b <= 8; b++) {
            boolean out = b < 0 || b > 7;
            Check.holds("append(" + b + ", 1)", (Scene.made(1, NO_CUT).append(b, 1) == -1) == out);
            Check.holds("change(" + b + ")", (Scene.made(1, NO_CUT).change(b) == -1) == out);
            Check.holds("drop(" + b + ")", (Scene.made(1, NO_CUT).drop(b) == -1) == out);
            Check.holds("swap(" + b + ", 0)", (Scene.made(1, NO_CUT).swap(b, 0) == -1) == out);
            Check.holds("swap(0, " + b + ")", (Scene.made(1, NO_CUT).swap(0, b) == -1) == out);
            Check.holds("size(" + b + ")", (Scene.made(1, NO_CUT).size(b) == -1) == out);
        }
        for (int k = -2; k <= 42; k++) {
            Check.holds("cutAfter(" + k + ")", (Scene.made(1, NO_CUT).cutAfter(k) == -1) == (k < 0 || k > 40));
        }
        int[] anyInt = {Integer.MIN_VALUE, -1, 0, 4, 8, Integer.MAX_VALUE};
        for (int word : anyInt) {
            Check.due("draft(" + word + "): a word has no range", Scene.made(0, NO_CUT).draft(word), 1);
            Check.due("append(0, " + word + "): a word has no range", Scene.made(0, NO_CUT).append(0, word), 1);
            Check.due("read(0, " + word + "): not a word of the block", Scene.made(0, NO_CUT).read(0, word), 0);
        }
    }

    private static void fullMeans() {
        Check.sentence("Terms", "`FULL = -2`: The block or the draft has four words.");
        Check.due("FULL", FlashVolumes.FULL, -2);
        Check.due("three words in the block", Scene.made(3, NO_CUT).append(2, 1), 4);
        Check.due("four words in the block", Scene.made(3, NO_CUT).append(3, 1), -2);
        Check.due("three words in the draft", Scene.made(3, NO_CUT).draft(1), 4);
        Check.due("four words in the draft", Scene.made(4, NO_CUT).draft(1), -2);
        Check.due("a full draft is none of a block's", Scene.made(4, NO_CUT).append(2, 1), 4);
        Check.due("a full block is none of the draft's", Check.filled(4, 4, 4, 4, 4, 4, 4, 4).draft(1), 1);
    }

    private static void noneMeans() {
        Check.sentence("Terms", "`NONE = -4`: There is no such thing.");
        Check.due("NONE", FlashVolumes.NONE, -4);
        Check.due("no words to drop", Scene.made(1, NO_CUT).drop(0), -4);
        Check.due("one word to drop", Scene.made(1, NO_CUT).drop(1), 1);
        Check.due("no cut to cancel", Scene.made(1, NO_CUT).cancel(), -4);
        Check.due("a cut to cancel", Scene.made(1, 0).cancel(), 0);
    }

    private static void cutMeans() {
        Check.sentence("Terms", "`CUT = -9`: The power was cut in the call.");
        Check.due("CUT", FlashVolumes.CUT, -9);
        for (Scene.Call call : Scene.stepping()) {
            Check.due(call.name() + ", cut", call.made().applyAsInt(Scene.made(call.draft(), call.steps() - 1)), -9);
            Check.due(call.name() + ", not cut",
                call.made().applyAsInt(Scene.made(call.draft(), call.steps())), call.answer());
            Check.due(call.name() + ", no cut set",
                call.made().applyAsInt(Scene.made(call.draft(), NO_CUT)), call.answer());
        }
    }
}
