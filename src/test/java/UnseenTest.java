import java.util.ArrayList;
import java.util.List;
import java.util.function.Consumer;
import java.util.function.ToIntFunction;

/** After rest and fail every other call answers as on an object on which they were not made. */
public final class UnseenTest {
    private static final int NO_CUT = Scene.NO_CUT;
    private static final int MIN = Integer.MIN_VALUE;
    private static final int MAX = Integer.MAX_VALUE;
    private static final int[] TIMES = {MIN, MIN + 1, -20, -1, 0, 1, 2, 19, 20, 21, MAX - 1, MAX};
    /** None, each that some call of the setting is cut with or is not, and the greatest. */
    private static final int[] COUNTS = {NO_CUT, 0, 1, 2, 3, 4, 5, 6, 7, 8, 9, 10, 11, 12, 39, 40};

    private record Unseen(String name, Consumer<FlashVolumes> made) {
    }

    private record Other(String name, ToIntFunction<FlashVolumes> made) {
    }

    private UnseenTest() {
    }

    public static void main(String[] args) {
        Check.each(
            UnseenTest::everyOtherCallAfterOne,
            UnseenTest::everyOtherCallAfterMany,
            UnseenTest::behindEveryCall,
            UnseenTest::lostWithThePower);
        Check.end("UnseenTest");
    }

    private static void sentence() {
        Check.sentence("Terms", "What the calls rest and fail do can't be seen by any other call.");
    }

    private static void everyOtherCallAfterOne() {
        sentence();
        for (Unseen unseen : unseen()) {
            inEverySetting(unseen);
        }
    }

    private static void everyOtherCallAfterMany() {
        sentence();
        inEverySetting(new Unseen("fail() three times, rest(20) between", x -> {
            x.fail();
            x.rest(20);
            x.fail();
            x.fail();
        }));
        inEverySetting(new Unseen("rest of all times in a row", x -> {
            for (int n : TIMES) {
                x.rest(n);
            }
        }));
    }

    private static void inEverySetting(Unseen unseen) {
        for (int draft = 0; draft <= 4; draft++) {
            for (int count : COUNTS) {
                for (Other other : others()) {
                    FlashVolumes x = Scene.made(draft, count);
                    FlashVolumes y = Scene.made(draft, count);
                    unseen.made().accept(x);
                    String told = unseen.name() + ", draft of " + draft + ", count " + count + ", then " + other.name();
                    Check.due(told, other.made().applyAsInt(x), other.made().applyAsInt(y));
                    unseen.made().accept(x);
                    sameContent(told, x, y);
                }
            }
        }
    }

    /** Made on a new object and behind each call, as they may tell only when later calls write and erase. */
    private static void behindEveryCall() {
        sentence();
        for (Unseen unseen : unseen()) {
            for (Other last : others()) {
                FlashVolumes x = new FlashVolumes();
                FlashVolumes y = new FlashVolumes();
                unseen.made().accept(x);
                for (Other other : others()) {
                    String told = unseen.name() + " behind each call, " + other.name();
                    Check.due(told, other.made().applyAsInt(x), other.made().applyAsInt(y));
                    unseen.made().accept(x);
                }
                String told = unseen.name() + " behind each call, at last " + last.name();
                Check.due(told, last.made().applyAsInt(x), last.made().applyAsInt(y));
                sameContent(told, x, y);
            }
        }
    }

    private static void lostWithThePower() {
        sentence();
        for (Unseen unseen : unseen()) {
            for (Scene.Call call : Scene.stepping()) {
                FlashVolumes x = Scene.made(call.draft(), call.steps() - 1);
                FlashVolumes y = Scene.made(call.draft(), call.steps() - 1);
                unseen.made().accept(x);
                String told = unseen.name() + ", cut in " + call.name();
                Check.due(told, call.made().applyAsInt(x), Scene.CUT);
                call.made().applyAsInt(y);
                unseen.made().accept(x);
                Check.due(told + ", again", call.made().applyAsInt(x), call.made().applyAsInt(y));
                x.restart();
                y.restart();
                sameContent(told, x, y);
            }
        }
    }

    private static void sameContent(String told, FlashVolumes x, FlashVolumes y) {
        Check.due(told + ": cancel()", x.cancel(), y.cancel());
        Check.due(told + ": digest()", x.digest(), y.digest());
        for (int b = 0; b <= 7; b++) {
            sameBlock(told, x, y, b);
        }
        Check.due(told + ": drafted()", x.drafted(), y.drafted());
        Check.due(told + ": change(7) to the draft", x.change(7), y.change(7));
        sameBlock(told + ", the draft in block 7", x, y, 7);
    }

    private static void sameBlock(String told, FlashVolumes x, FlashVolumes y, int b) {
        Check.due(told + ": size(" + b + ")", x.size(b), y.size(b));
        for (int i = -1; i <= 4; i++) {
            Check.due(told + ": read(" + b + ", " + i + ")", x.read(b, i), y.read(b, i));
        }
    }

    private static List<Unseen> unseen() {
        List<Unseen> all = new ArrayList<>();
        for (int n : TIMES) {
            all.add(new Unseen("rest(" + n + ")", x -> x.rest(n)));
        }
        all.add(new Unseen("fail()", FlashVolumes::fail));
        return all;
    }

    /** Every call of the class but rest and fail, at its edges. */
    private static List<Other> others() {
        List<Other> all = new ArrayList<>();
        for (Scene.Call call : Scene.stepping()) {
            all.add(new Other(call.name(), call.made()));
        }
        for (Scene.Call call : Scene.withoutSteps()) {
            all.add(new Other(call.name(), call.made()));
        }
        all.add(new Other("draft(MIN)", x -> x.draft(MIN)));
        all.add(new Other("append(3, MAX)", x -> x.append(3, MAX)));
        all.add(new Other("append(8, 1)", x -> x.append(8, 1)));
        all.add(new Other("change(-1)", x -> x.change(-1)));
        all.add(new Other("drop(0)", x -> x.drop(0)));
        all.add(new Other("swap(7, 8)", x -> x.swap(7, 8)));
        all.add(new Other("size(8)", x -> x.size(8)));
        all.add(new Other("cutAfter(-1)", x -> x.cutAfter(-1)));
        all.add(new Other("cutAfter(0)", x -> x.cutAfter(0)));
        all.add(new Other("cutAfter(40)", x -> x.cutAfter(40)));
        all.add(new Other("cutAfter(41)", x -> x.cutAfter(41)));
        all.add(new Other("cancel()", FlashVolumes::cancel));
        all.add(new Other("digest()", FlashVolumes::digest));
        all.add(new Other("scrap()", x -> {
            x.scrap();
            return 0;
        }));
        all.add(new Other("restart()", x -> {
            x.restart();
            return 0;
        }));
        return all;
    }
}
