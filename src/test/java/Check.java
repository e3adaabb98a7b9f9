/** Counts the answers that are not as due, prints them, and ends the program. */
final class Check {
    private static int asked = 0;
    private static int wrong = 0;
    private static String sentence = "";
    private static int askedBefore = 0;

    private Check() {
    }

    /** What is asked from here on is asked by this sentence of the document. */
    static void sentence(String where, String words) {
        endSentence();
        sentence = where + " \"" + words + "\": ";
        askedBefore = asked;
    }

    /** A test that throws counts as wrong, under the sentence that it was at, and the others are still made. */
    static void each(Runnable... tests) {
        for (Runnable test : tests) {
            try {
                test.run();
            } catch (RuntimeException | Error thrown) {
                holds("no call throws: " + thrown, false);
            }
        }
    }

    // A sentence whose test asks nothing would look like one that holds.
    private static void endSentence() {
        if (!sentence.isEmpty() && asked == askedBefore) {
            holds("something is asked", false);
        }
    }

    static void due(String call, long got, long want) {
        asked++;
        if (got != want) {
            wrong++;
            System.out.println(sentence + call + " answered " + got + ", due is " + want);
        }
    }

    static void holds(String what, boolean is) {
        asked++;
        if (!is) {
            wrong++;
            System.out.println(sentence + "does not hold: " + what);
        }
    }

    static boolean allDue() {
        return wrong == 0;
    }

    static void end(String name) {
        endSentence();
        System.out.println(name + ": " + asked + " answers, " + wrong + " wrong");
        System.exit(wrong == 0 && asked > 0 ? 0 : 1);
    }

    /** An object whose block b has the words 100 b + 1, 100 b + 2, .. as many as sizes[b] says. */
    static FlashVolumes filled(int... sizes) {
        FlashVolumes x = new FlashVolumes();
        for (int b = 0; b < sizes.length; b++) {
            for (int i = 0; i < sizes[b]; i++) {
                x.append(b, 100 * b + i + 1);
            }
        }
        return x;
    }

    static void block(String when, FlashVolumes x, int b, int... words) {
        due(when + ": size(" + b + ")", x.size(b), words.length);
        for (int i = 0; i < words.length; i++) {
            due(when + ": read(" + b + ", " + i + ")", x.read(b, i), words[i]);
        }
        for (int i = words.length; i < 5; i++) {
            due(when + ": read(" + b + ", " + i + ")", x.read(b, i), 0);
        }
    }

    /** The blocks are still those that filled(sizes) made. */
    static void stillFilled(String when, FlashVolumes x, int... sizes) {
        for (int b = 0; b < 8; b++) {
            int size = b < sizes.length ? sizes[b] : 0;
            int[] words = new int[size];
            for (int i = 0; i < size; i++) {
                words[i] = 100 * b + i + 1;
            }
            block(when, x, b, words);
        }
    }

    /** The draft has no eye of its own: its words are seen by changing a block to them. */
    static void draftIs(String when, FlashVolumes x, int... words) {
        due(when + ": drafted()", x.drafted(), words.length);
        x.cancel();
        due(when + ": change(7)", x.change(7), words.length);
        block(when + ", the draft in block 7", x, 7, words);
    }
}
