import java.util.ArrayList;
import java.util.HashMap;
import java.util.List;
import java.util.Map;
import java.util.Set;
import java.util.TreeSet;

/** The document's words played through beat by beat, over many more beats than the program looks at. */
final class Model {
    private static final int BAD_ARG = -1;
    private static final int FULL = -2;
    private static final int NONE = -4;
    private static final int FAR = 40;
    private static final int[][] WAYS = waysBetweenSets();
    private static final Map<Integer, List<int[]>> JUGGLABLE_ROWS = new HashMap<>();

    private List<Integer> heights = new ArrayList<>(List.of(3));

    Model(int... row) {
        become(row);
    }

    int put(int height) {
        if (height < 0 || height > 7) {
            return BAD_ARG;
        }
        if (heights.size() == 5) {
            return FULL;
        }
        heights.add(height);
        return heights.size();
    }

    int drop() {
        return heights.size() == 1 ? NONE : heights.remove(heights.size() - 1);
    }

    int set(int i, int height) {
        boolean fits = hasThrow(i) && height >= 0 && height <= 7;
        return fits ? heights.set(i, height) : BAD_ARG;
    }

    int swap(int i) {
        if (!hasThrow(i)) {
            return BAD_ARG;
        }
        if (heights.size() == 1) {
            return NONE;
        }
        int other = i == heights.size() - 1 ? 0 : i + 1;
        int mine = heights.get(i);
        int theirs = heights.get(other);
        if (theirs == 7 || mine == 0) {
            return NONE;
        }
        heights.set(i, theirs + 1);
        heights.set(other, mine - 1);
        return jugglable();
    }

    int turn() {
        int first = heights.remove(0);
        heights.add(first);
        return first;
    }

    int mirror() {
        if (jugglable() == 0) {
            return NONE;
        }
        Map<Integer, Integer> backwards = new HashMap<>();
        for (int t = -FAR; t <= FAR; t++) {
            backwards.put(-(t + heightAt(t)), heightAt(t));
        }
        for (int i = 0, n = heights.size(); i < n; i++) {
            heights.set(i, backwards.get(i));
        }
        return 0;
    }

    int size() {
        return heights.size();
    }

    int height(int i) {
        return hasThrow(i) ? heights.get(i) : NONE;
    }

    int jugglable() {
        Set<Integer> down = new TreeSet<>();
        for (int t = -FAR; t <= FAR; t++) {
            if (!down.add(t + heightAt(t))) {
                return 0;
            }
        }
        return 1;
    }

    int balls() {
        return jugglable() == 0 ? NONE : Integer.bitCount(stateBefore(0));
    }

    int state(int t) {
        if (t < -1000 || t > 1000) {
            return BAD_ARG;
        }
        return jugglable() == 0 ? NONE : stateBefore(t);
    }

    int prime() {
        if (jugglable() == 0) {
            return NONE;
        }
        Set<Integer> states = new TreeSet<>();
        for (int t = 0; t < heights.size(); t++) {
            states.add(stateBefore(t));
        }
        return states.size() == heights.size() ? 1 : 0;
    }

    int period(int i) {
        if (!hasThrow(i)) {
            return BAD_ARG;
        }
        if (jugglable() == 0 || heights.get(i) == 0) {
            return NONE;
        }
        int beat = i + heights.get(i);
        while (Math.floorMod(beat, heights.size()) != i) {
            beat += heightAt(beat);
        }
        return beat - i;
    }

    /** Every choice of throws is tried. */
    int orbits() {
        if (jugglable() == 0) {
            return NONE;
        }
        int greatest = 0;
        for (int chosen = 0; chosen < 1 << heights.size(); chosen++) {
            if (isApart(chosen)) {
                greatest = Math.max(greatest, Integer.bitCount(chosen));
            }
        }
        return greatest;
    }

    int count(int b) {
        return b < 0 || b > 7 ? BAD_ARG : rowsWith(heights.size(), b).size();
    }

    int rank() {
        if (jugglable() == 0) {
            return NONE;
        }
        int before = 0;
        for (int[] row : rowsWith(heights.size(), balls())) {
            if (comesBefore(row)) {
                before++;
            }
        }
        return before;
    }

    int load(int b, int k) {
        if (b < 0 || b > 7) {
            return BAD_ARG;
        }
        List<int[]> rows = rowsWith(heights.size(), b);
        if (k < 0 || k >= rows.size()) {
            return NONE;
        }
        become(rows.get(k));
        return 0;
    }

    int steps(int a, int b) {
        return a < 0 || a > 127 || b < 0 || b > 127 ? BAD_ARG : WAYS[a][b];
    }

    private void become(int[] row) {
        heights = new ArrayList<>();
        for (int height : row) {
            heights.add(height);
        }
    }

    private boolean hasThrow(int i) {
        return i >= 0 && i < heights.size();
    }

    private int heightAt(int beat) {
        return heights.get(Math.floorMod(beat, heights.size()));
    }

    private int stateBefore(int t) {
        Set<Integer> state = new TreeSet<>();
        for (int thrown = t - FAR; thrown < t; thrown++) {
            int k = thrown + heightAt(thrown) - t;
            if (heightAt(thrown) > 0 && k >= 0 && k <= 6) {
                state.add(k);
            }
        }
        return state.stream().mapToInt(k -> 1 << k).sum();
    }

    private boolean isApart(int chosen) {
        for (int i = 0; i < heights.size(); i++) {
            if ((chosen & 1 << i) != 0 && (heights.get(i) == 0 || (throwsOfBallFrom(i) & chosen) != 1 << i)) {
                return false;
            }
        }
        return true;
    }

    private int throwsOfBallFrom(int i) {
        int thrown = 0;
        for (int beat = i; beat <= i + 10 * FAR; beat += heightAt(beat)) {
            thrown |= 1 << Math.floorMod(beat, heights.size());
        }
        return thrown;
    }

    private boolean comesBefore(int[] row) {
        for (int i = 0; i < row.length; i++) {
            if (row[i] != heights.get(i)) {
                return row[i] < heights.get(i);
            }
        }
        return false;
    }

    private static List<int[]> rowsWith(int n, int b) {
        return JUGGLABLE_ROWS.computeIfAbsent(10 * n + b, key -> findRowsWith(n, b));
    }

    private static List<int[]> findRowsWith(int n, int b) {
        List<int[]> found = new ArrayList<>();
        for (int[] row : allRows(n)) {
            if (new Model(row).balls() == b) {
                found.add(row);
            }
        }
        return found;
    }

    /** All rows of n heights, in the document's order. */
    static List<int[]> allRows(int n) {
        List<int[]> rows = new ArrayList<>();
        rows.add(new int[0]);
        for (int length = 1; length <= n; length++) {
            List<int[]> longer = new ArrayList<>();
            for (int[] row : rows) {
                for (int height = 0; height <= 7; height++) {
                    int[] more = java.util.Arrays.copyOf(row, length);
                    more[length - 1] = height;
                    longer.add(more);
                }
            }
            rows = longer;
        }
        return rows;
    }

    /** The length of the shortest way between any two sets, by way of every third one. */
    private static int[][] waysBetweenSets() {
        int none = 1000;
        int[][] ways = new int[128][128];
        for (int s = 0; s < 128; s++) {
            java.util.Arrays.fill(ways[s], none);
            for (int next : setsAfter(s)) {
                ways[s][next] = 1;
            }
            ways[s][s] = 0;
        }
        for (int by = 0; by < 128; by++) {
            for (int a = 0; a < 128; a++) {
                for (int b = 0; b < 128; b++) {
                    ways[a][b] = Math.min(ways[a][b], ways[a][by] + ways[by][b]);
                }
            }
        }
        for (int[] row : ways) {
            for (int b = 0; b < 128; b++) {
                row[b] = row[b] >= none ? NONE : row[b];
            }
        }
        return ways;
    }

    private static List<Integer> setsAfter(int s) {
        Set<Integer> members = new TreeSet<>();
        for (int k = 0; k <= 6; k++) {
            if ((s & 1 << k) != 0) {
                members.add(k);
            }
        }
        List<Integer> after = new ArrayList<>();
        if (!members.contains(0)) {
            after.add(allLessByOne(members));
            return after;
        }
        for (int h = 1; h <= 7; h++) {
            if (!members.contains(h)) {
                Set<Integer> thrown = new TreeSet<>(members);
                thrown.remove(0);
                thrown.add(h);
                after.add(allLessByOne(thrown));
            }
        }
        return after;
    }

    private static int allLessByOne(Set<Integer> members) {
        return members.stream().mapToInt(k -> 1 << (k - 1)).sum();
    }
}
