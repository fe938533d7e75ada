public final class SiteSwaps {
    public static final int BAD_ARG = -1;
    public static final int FULL = -2;
    public static final int NONE = -4;

    private static final int MOST_THROWS = 5;
    private static final int MOST_HEIGHT = 7;
    private static final int MOST_BALLS = 7;
    private static final int FARTHEST_BEAT = 1000;
    private static final int FIRST_HEIGHT = 3;

    private static final int HEIGHT_BITS = 3;
    private static final int HEIGHT_MASK = 7;

    private static final int SETS = 128;
    private static final int UNREACHED = -1;

    // A row of heights is held as one octal number, the first throw as its
    // leading digit: rows of the same length are then ordered as the document
    // orders patterns.
    private int pattern;

    // Always 1 to MOST_THROWS.
    private int throwCount;

    private final int[] distance = new int[SETS];

    public SiteSwaps() {
        pattern = FIRST_HEIGHT;
        throwCount = 1;
    }

    public int put(int height) {
        if (!isHeight(height)) {
            return BAD_ARG;
        }
        if (throwCount >= MOST_THROWS) {
            return FULL;
        }
        pattern = (pattern << HEIGHT_BITS) | height;
        throwCount++;
        return throwCount;
    }

    public int drop() {
        if (throwCount <= 1) {
            return NONE;
        }
        int last = pattern & HEIGHT_MASK;
        pattern = pattern >> HEIGHT_BITS;
        throwCount--;
        return last;
    }

    public int set(int i, int height) {
        if (!isThrow(i) || !isHeight(height)) {
            return BAD_ARG;
        }
        int before = heightIn(pattern, i);
        pattern = withHeight(pattern, i, height);
        return before;
    }

    public int swap(int i) {
        if (!isThrow(i)) {
            return BAD_ARG;
        }
        if (throwCount == 1) {
            return NONE;
        }
        int other = throwAt(i + 1);
        int heightOfI = heightIn(pattern, other) + 1;
        int heightOfOther = heightIn(pattern, i) - 1;
        if (!isHeight(heightOfI) || !isHeight(heightOfOther)) {
            return NONE;
        }
        pattern = withHeight(pattern, i, heightOfI);
        pattern = withHeight(pattern, other, heightOfOther);
        return landsApart(pattern) ? 1 : 0;
    }

    public int turn() {
        int first = heightIn(pattern, 0);
        int rest = withHeight(pattern, 0, 0);
        pattern = (rest << HEIGHT_BITS) | first;
        return first;
    }

    public int mirror() {
        if (!landsApart(pattern)) {
            return NONE;
        }
        int mirrored = 0;
        for (int i = 0; i < throwCount; i++) {
            int h = heightIn(pattern, i);
            int place = throwAt(-(i + h));
            mirrored = withHeight(mirrored, place, h);
        }
        pattern = mirrored;
        return 0;
    }

    public int size() {
        return throwCount;
    }

    public int height(int i) {
        return isThrow(i) ? heightIn(pattern, i) : NONE;
    }

    public int jugglable() {
        return landsApart(pattern) ? 1 : 0;
    }

    public int balls() {
        return landsApart(pattern) ? ballsOfPattern() : NONE;
    }

    public int state(int t) {
        if (t < -FARTHEST_BEAT || t > FARTHEST_BEAT) {
            return BAD_ARG;
        }
        return landsApart(pattern) ? stateBefore(t) : NONE;
    }

    public int prime() {
        if (!landsApart(pattern)) {
            return NONE;
        }
        for (int late = 1; late < throwCount; late++) {
            int lateState = stateBefore(late);
            for (int early = 0; early < late; early++) {
                if (stateBefore(early) == lateState) {
                    return 0;
                }
            }
        }
        return 1;
    }

    public int period(int i) {
        if (!isThrow(i)) {
            return BAD_ARG;
        }
        if (heightIn(pattern, i) == 0 || !landsApart(pattern)) {
            return NONE;
        }
        return beatsUntilBackAt(i);
    }

    public int orbits() {
        if (!landsApart(pattern)) {
            return NONE;
        }
        int found = 0;
        int seen = 0;
        for (int i = 0; i < throwCount; i++) {
            if (heightIn(pattern, i) > 0 && ((seen >> i) & 1) == 0) {
                found++;
                seen = seen | throwsOfBall(i);
            }
        }
        return found;
    }

    public int count(int b) {
        if (!isBallNumber(b)) {
            return BAD_ARG;
        }
        int end = rowsEnd();
        return countBelow(end, b);
    }

    public int rank() {
        if (!landsApart(pattern)) {
            return NONE;
        }
        int b = ballsOfPattern();
        return countBelow(pattern, b);
    }

    public int load(int b, int k) {
        if (!isBallNumber(b)) {
            return BAD_ARG;
        }
        int end = rowsEnd();
        int before = 0;
        for (int row = 0; row < end; row++) {
            if (isJugglableWith(row, b)) {
                if (before == k) {
                    pattern = row;
                    return 0;
                }
                before++;
            }
        }
        return NONE;
    }

    public int steps(int a, int b) {
        if (!isSet(a) || !isSet(b)) {
            return BAD_ARG;
        }
        forgetDistances();
        distance[a] = 0;
        // A shortest way meets no set twice, so it has fewer than SETS steps.
        for (int done = 0; done < SETS; done++) {
            if (distance[b] != UNREACHED) {
                return distance[b];
            }
            stepFromAllAt(done);
        }
        return NONE;
    }

    private boolean isHeight(int height) {
        return height >= 0 && height <= MOST_HEIGHT;
    }

    private boolean isThrow(int i) {
        return i >= 0 && i < throwCount;
    }

    private boolean isBallNumber(int b) {
        return b >= 0 && b <= MOST_BALLS;
    }

    private boolean isSet(int s) {
        return s >= 0 && s < SETS;
    }

    // No call leaves fewer than one throw; the divisor is looked at all the same,
    // so that nobody has to know that to see that no division fails.
    private int throwAt(int beat) {
        if (throwCount < 1) {
            return 0;
        }
        int remainder = beat % throwCount;
        return remainder < 0 ? remainder + throwCount : remainder;
    }

    private int shiftOf(int i) {
        return HEIGHT_BITS * (throwCount - 1 - i);
    }

    private int heightIn(int row, int i) {
        return (row >> shiftOf(i)) & HEIGHT_MASK;
    }

    private int withHeight(int row, int i, int height) {
        int shift = shiftOf(i);
        return (row & ~(HEIGHT_MASK << shift)) | (height << shift);
    }

    private int rowsEnd() {
        return 1 << (HEIGHT_BITS * throwCount);
    }

    // The row comes again every throwCount beats, so two throws come down at the
    // same beat some time if the same throw is due where they come down.
    private boolean landsApart(int row) {
        int landed = 0;
        for (int i = 0; i < throwCount; i++) {
            int down = i + heightIn(row, i);
            int landing = throwAt(down);
            if (((landed >> landing) & 1) != 0) {
                return false;
            }
            landed = landed | (1 << landing);
        }
        return true;
    }

    private int heightSum(int row) {
        int sum = 0;
        for (int i = 0; i < throwCount; i++) {
            sum += heightIn(row, i);
        }
        return sum;
    }

    // Before any beat there are as many, so beat 0 is as good as another one.
    private int ballsOfPattern() {
        int inAir = stateBefore(0);
        int found = 0;
        for (int k = 0; k < MOST_HEIGHT; k++) {
            found += (inAir >> k) & 1;
        }
        return found;
    }

    // A throw keeps its ball in the air for height beats, and every ball is in
    // the air all the time: the heights of a jugglable row with b balls add up to
    // b * throwCount. That is the cheaper question and sorts out most rows.
    private boolean isJugglableWith(int row, int b) {
        return heightSum(row) == b * throwCount && landsApart(row);
    }

    private int countBelow(int end, int b) {
        int found = 0;
        for (int row = 0; row < end; row++) {
            if (isJugglableWith(row, b)) {
                found++;
            }
        }
        return found;
    }

    // No throw made more than MOST_HEIGHT beats ago is still in the air.
    private int stateBefore(int t) {
        int inAir = 0;
        for (int ago = 1; ago <= MOST_HEIGHT; ago++) {
            int thrown = throwAt(t - ago);
            int k = heightIn(pattern, thrown) - ago;
            if (k >= 0) {
                inAir = inAir | (1 << k);
            }
        }
        return inAir;
    }

    // In a jugglable pattern a ball comes back to its throw after meeting each
    // throw at most once.
    private int beatsUntilBackAt(int i) {
        int beat = i;
        for (int thrown = 0; thrown < throwCount; thrown++) {
            int at = throwAt(beat);
            beat += heightIn(pattern, at);
            if (throwAt(beat) == i) {
                break;
            }
        }
        return beat - i;
    }

    private int throwsOfBall(int i) {
        int met = 0;
        int at = i;
        for (int thrown = 0; thrown < throwCount; thrown++) {
            met = met | (1 << at);
            int down = at + heightIn(pattern, at);
            at = throwAt(down);
        }
        return met;
    }

    private void forgetDistances() {
        for (int s = 0; s < SETS; s++) {
            distance[s] = UNREACHED;
        }
    }

    private void stepFromAllAt(int done) {
        for (int s = 0; s < SETS; s++) {
            if (distance[s] == done) {
                stepFrom(s, done + 1);
            }
        }
    }

    private void stepFrom(int s, int taken) {
        if ((s & 1) == 0) {
            reach(s >> 1, taken);
            return;
        }
        for (int h = 1; h <= MOST_HEIGHT; h++) {
            if (((s >> h) & 1) == 0) {
                reach((s | (1 << h)) >> 1, taken);
            }
        }
    }

    private void reach(int s, int taken) {
        if (isSet(s) && distance[s] == UNREACHED) {
            distance[s] = taken;
        }
    }
}
