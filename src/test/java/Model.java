import java.util.ArrayList;
import java.util.List;

/**
 * The document told a second time, in another way: a call that does steps is tried on a copy,
 * step by step, and the copy becomes the content only if the power lasts.
 */
final class Model {
    private List<List<Integer>> blocks = new ArrayList<>();
    private final List<Integer> draft = new ArrayList<>();
    private Integer count = null;

    Model() {
        for (int b = 0; b < 8; b++) {
            blocks.add(new ArrayList<>());
        }
    }

    int draft(int word) {
        if (draft.size() == 4) {
            return -2;
        }
        draft.add(word);
        return draft.size();
    }

    void restart() {
        draft.clear();
        count = null;
    }

    void scrap() {
        draft.clear();
    }

    int drafted() {
        return draft.size();
    }

    int append(int b, int word) {
        if (outside(b)) {
            return -1;
        }
        if (blocks.get(b).size() == 4) {
            return -2;
        }
        List<List<Integer>> next = copy();
        next.get(b).add(word);
        return done(next, blocks.get(b).isEmpty() ? 2 : 1, next.get(b).size());
    }

    int change(int b) {
        if (outside(b)) {
            return -1;
        }
        List<List<Integer>> next = copy();
        next.set(b, new ArrayList<>(draft));
        int answer = done(next, draft.size() + 2, draft.size());
        draft.clear();
        return answer;
    }

    int drop(int b) {
        if (outside(b)) {
            return -1;
        }
        if (blocks.get(b).isEmpty()) {
            return -4;
        }
        List<List<Integer>> next = copy();
        next.get(b).clear();
        return done(next, 1, blocks.get(b).size());
    }

    int swap(int b, int c) {
        if (outside(b) || outside(c)) {
            return -1;
        }
        List<List<Integer>> next = copy();
        List<Integer> first = next.get(b);
        next.set(b, next.get(c));
        next.set(c, first);
        return done(next, b == c ? 0 : next.get(b).size() + next.get(c).size() + 3, 0);
    }

    int size(int b) {
        return outside(b) ? -1 : blocks.get(b).size();
    }

    int read(int b, int i) {
        boolean there = !outside(b) && i >= 0 && i < blocks.get(b).size();
        return there ? blocks.get(b).get(i) : 0;
    }

    int cutAfter(int k) {
        if (k < 0 || k > 40) {
            return -1;
        }
        count = k;
        return 0;
    }

    int cancel() {
        int answer = count == null ? -4 : count;
        count = null;
        return answer;
    }

    int digest() {
        long sum = 0;
        for (int b = 0; b < 8; b++) {
            for (int i = 0; i < blocks.get(b).size(); i++) {
                sum += (4L * b + i + 1) * blocks.get(b).get(i);
            }
        }
        return (int) sum;
    }

    private static boolean outside(int b) {
        return b < 0 || b > 7;
    }

    private List<List<Integer>> copy() {
        List<List<Integer>> all = new ArrayList<>();
        for (List<Integer> block : blocks) {
            all.add(new ArrayList<>(block));
        }
        return all;
    }

    private int done(List<List<Integer>> next, int steps, int answer) {
        for (int step = 0; step < steps && count != null; step++) {
            if (count == 0) {
                restart();
                return -9;
            }
            count--;
        }
        blocks = next;
        return answer;
    }
}
