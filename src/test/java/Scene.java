import java.util.ArrayList;
import java.util.List;
import java.util.function.ToIntFunction;

/**
 * One setting for the tests of the document's edges: blocks of every size, a draft, and a cut or none;
 * and the calls that do steps in it or are refused in it.
 */
final class Scene {
    static final int BAD_ARG = -1;
    static final int FULL = -2;
    static final int NONE = -4;
    static final int CUT = -9;
    static final int NO_CUT = -1;
    /** Beside and far beyond both ends of 0 to 7. */
    static final int[] NOT_BLOCKS = {-1, 8, -2, 9, -8, 1 << 30, -(1 << 30), Integer.MIN_VALUE, Integer.MAX_VALUE};
    private static final int[] SIZES = {0, 1, 3, 4, 0, 2, 4, 1};

    /** A call, and what is due: with which draft it is made, how many steps it does, what it answers. */
    record Call(String name, int draft, int steps, int answer, ToIntFunction<FlashVolumes> made) {
    }

    private Scene() {
    }

    static FlashVolumes made(int draft, int count) {
        FlashVolumes x = Check.filled(SIZES);
        for (int i = 0; i < draft; i++) {
            x.draft(draftWord(i));
        }
        if (count != NO_CUT) {
            x.cutAfter(count);
        }
        return x;
    }

    static void blocksStay(String when, FlashVolumes x) {
        Check.stillFilled(when, x, SIZES);
    }

    static void countIs(String when, FlashVolumes x, int count) {
        Check.due(when + ": cancel()", x.cancel(), count == NO_CUT ? NONE : count);
    }

    static void draftStays(String when, FlashVolumes x, int draft) {
        int[] words = new int[draft];
        for (int i = 0; i < draft; i++) {
            words[i] = draftWord(i);
        }
        Check.draftIs(when, x, words);
    }

    static void allStays(String when, FlashVolumes x, int draft, int count) {
        countIs(when, x, count);
        blocksStay(when, x);
        draftStays(when, x, draft);
    }

    private static int draftWord(int i) {
        return -70 - i;
    }

    /** At the least and the most steps that each kind of call can do. */
    static List<Call> stepping() {
        return List.of(
            new Call("append to an empty block", 2, 2, 1, x -> x.append(0, 9)),
            new Call("append to a block of one word", 4, 1, 2, x -> x.append(1, 9)),
            new Call("append to a block of three words", 0, 1, 4, x -> x.append(2, 9)),
            new Call("change an empty block, empty draft", 0, 2, 0, x -> x.change(4)),
            new Call("change a full block, empty draft", 0, 2, 0, x -> x.change(3)),
            new Call("change an empty block, draft of one", 1, 3, 1, x -> x.change(0)),
            new Call("change a block of one word, full draft", 4, 6, 4, x -> x.change(7)),
            new Call("change a full block, full draft", 4, 6, 4, x -> x.change(6)),
            new Call("drop a block of one word", 3, 1, 1, x -> x.drop(7)),
            new Call("drop a full block", 1, 1, 4, x -> x.drop(3)),
            new Call("swap two empty blocks", 4, 3, 0, x -> x.swap(0, 4)),
            new Call("swap an empty block and one of one word", 1, 4, 0, x -> x.swap(4, 7)),
            new Call("swap a full block and an empty one", 2, 7, 0, x -> x.swap(3, 0)),
            new Call("swap two full blocks", 0, 11, 0, x -> x.swap(6, 3)));
    }

    /** Refused because of what the blocks and the draft hold, or because of k. */
    static List<Call> refused() {
        List<Call> all = new ArrayList<>(List.of(
            new Call("draft to a full draft", 4, 0, FULL, x -> x.draft(9)),
            new Call("append to a full block", 1, 0, FULL, x -> x.append(3, 9)),
            new Call("append to another full block", 4, 0, FULL, x -> x.append(6, 9)),
            new Call("drop an empty block", 1, 0, NONE, x -> x.drop(0)),
            new Call("drop another empty block", 4, 0, NONE, x -> x.drop(4)),
            new Call("cutAfter(-1)", 2, 0, BAD_ARG, x -> x.cutAfter(-1)),
            new Call("cutAfter(41)", 2, 0, BAD_ARG, x -> x.cutAfter(41))));
        all.addAll(badBlocks());
        return all;
    }

    static List<Call> badBlocks() {
        List<Call> all = new ArrayList<>();
        for (int bad : NOT_BLOCKS) {
            all.add(new Call("append(" + bad + ", 9)", 3, 0, BAD_ARG, x -> x.append(bad, 9)));
            all.add(new Call("change(" + bad + ")", 4, 0, BAD_ARG, x -> x.change(bad)));
            all.add(new Call("change(" + bad + "), empty draft", 0, 0, BAD_ARG, x -> x.change(bad)));
            all.add(new Call("drop(" + bad + ")", 1, 0, BAD_ARG, x -> x.drop(bad)));
            all.add(new Call("swap(" + bad + ", 0)", 1, 0, BAD_ARG, x -> x.swap(bad, 0)));
            all.add(new Call("swap(7, " + bad + ")", 1, 0, BAD_ARG, x -> x.swap(7, bad)));
            all.add(new Call("swap(" + bad + ", " + bad + ")", 1, 0, BAD_ARG, x -> x.swap(bad, bad)));
            all.add(new Call("size(" + bad + ")", 1, 0, BAD_ARG, x -> x.size(bad)));
        }
        return all;
    }

    /** Not refused, and without steps whatever the blocks hold. */
    static List<Call> withoutSteps() {
        return List.of(
            new Call("size of an empty block", 2, 0, 0, x -> x.size(0)),
            new Call("size of a full block", 2, 0, 4, x -> x.size(3)),
            new Call("read a word", 2, 0, 304, x -> x.read(3, 3)),
            new Call("read no word", 2, 0, 0, x -> x.read(3, 4)),
            new Call("read no block", 2, 0, 0, x -> x.read(8, 0)),
            new Call("drafted, empty draft", 0, 0, 0, FlashVolumes::drafted),
            new Call("drafted, full draft", 4, 0, 4, FlashVolumes::drafted),
            new Call("swap an empty block with itself", 2, 0, 0, x -> x.swap(0, 0)),
            new Call("swap a full block with itself", 2, 0, 0, x -> x.swap(6, 6)));
    }
}
