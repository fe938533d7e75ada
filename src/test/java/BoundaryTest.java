import java.util.Arrays;
import java.util.function.ToIntFunction;

/** Each sentence of the document that names a boundary case, by itself: one method for each sentence. */
public final class BoundaryTest {
    private static final int BAD_ARG = -1;
    private static final int FULL = -2;
    private static final int NONE = -4;
    private static final int MIN = Integer.MIN_VALUE;
    private static final int MAX = Integer.MAX_VALUE;

    /** No call has this answer: it stands for none. */
    private static final int THREW = -999_999_999;

    private static final int[] NOT_0_TO_7 = {MIN, MIN + 1, -8, -1, 8, 9, 15, 256, MAX - 1, MAX};
    private static final int[] NOT_0_TO_127 = {MIN, MIN + 1, -128, -1, 128, 129, 255, 256, MAX - 1, MAX};
    private static final int[] NOT_1000 = {MIN, MIN + 1, -1002, -1001, 1001, 1002, MAX - 1, MAX};

    /** One of each length. */
    private static final int[][] JUGGLABLE = {{3}, {5, 1}, {5, 3, 1}, {7, 5, 3, 1}, {6, 2, 5, 1, 6}};

    /** A pattern of one throw is always jugglable. In these all throws come down at once. */
    private static final int[][] NOT_JUGGLABLE = {{2, 1}, {3, 2, 1}, {4, 3, 2, 1}, {7, 6, 5, 4, 3}};

    private BoundaryTest() {
    }

    public static void main(String[] args) {
        usedForAtMost512Calls();
        beatsAlsoBelow0();
        throwTModuloNFrom0();
        noTwoThrowsComeDownAtTheSameBeat();
        throwsOfHeight0AreCountedToo();
        throwOfHeight0IsNoThrowOfABall();
        stateIsOfAllKFrom0To6();
        anyHeightFrom1To7NotInTheSet();
        if0IsNotInTheSetNothingIsChosen();
        lesserHeightOfTheFirstDifferenceFirst();
        noCallEverThrows();
        promise1OneThrowOfHeight3();
        promise2HeightNot0To7();
        promise2Full();
        promise2HeightBeforeFull();
        promise3OnlyOne();
        promise4INot0ToNLess1();
        promise4HeightNot0To7();
        promise5ThrowBehindTheLastOne();
        promise5INot0ToNLess1();
        promise5OnlyOne();
        promise5HeightWouldNotBe0To7();
        promise5JugglableThen();
        promise6FirstBecomesLast();
        promise7BeatsBelow0();
        promise7NotJugglable();
        promise8FewestAndMost();
        promise9NoSuchThrow();
        promise11FewestAndMost();
        promise11NotJugglable();
        promise12TNotInRange();
        promise12NotJugglable();
        promise13StatesAllDifferent();
        promise13NotJugglable();
        promise14INot0ToNLess1();
        promise14Height0();
        promise14NotJugglable();
        promise14LeastNumberOfBeats();
        promise15Height0DoesNotCount();
        promise15NotJugglable();
        promise16BNot0To7();
        promise16FewestAndMost();
        promise17FirstAndLast();
        promise17NotJugglable();
        promise18BNot0To7();
        promise18NoSuchPattern();
        promise18FirstAndLast();
        promise19NotASet();
        promise19NoWay();
        promise19NoStep();
        promise20StateBadArgFirst();
        promise20PeriodBadArgFirst();
        promise20LoadBadArgFirst();
        promise20StepsBadArgFirst();
        Check.end();
    }

    /** "An object is used for at most 512 calls after it has been made": the last ones answer as the first ones. */
    private static void usedForAtMost512Calls() {
        SiteSwaps x = new SiteSwaps();
        for (int made = 0; made < 510; made += 2) {
            due("call " + (made + 1) + ", put(7)", x.put(7), 2);
            due("call " + (made + 2) + ", drop()", x.drop(), 7);
        }
        due("call 511, steps(7, 19)", x.steps(7, 19), 1);
        due("call 512, state(0)", x.state(0), 7);
    }

    /** Terms: "BEATS are all whole numbers, also those below 0". */
    private static void beatsAlsoBelow0() {
        dueStates(new int[] {5, 1}, -2, 11, 21);
        dueStates(new int[] {5, 3, 1}, -3, 7, 19, 13);
        dueStates(new int[] {7, 5, 3, 1}, -4, 15, 71, 51, 29);
        dueStates(new int[] {7, 4, 4, 1, 4}, -5, 15, 71, 43, 29, 15);
        dueStates(new int[] {7, 4, 4, 1, 4}, -1000, 15, 71, 43, 29, 15);
        dueStates(new int[] {5, 3, 1}, -1000, 13, 7, 19, 13);
        dueStates(new int[] {3}, -1000, 7, 7);
    }

    /** Terms: "at beat t throw t modulo n (from 0 to n - 1) is made". */
    private static void throwTModuloNFrom0() {
        dueStates(new int[] {5, 1}, -3, 21, 11, 21, 11, 21, 11);
        dueStates(new int[] {5, 3, 1}, -1, 13, 7, 19, 13, 7, 19, 13);
        dueStates(new int[] {7, 5, 3, 1}, -1, 29, 15, 71, 51, 29, 15);
        dueStates(new int[] {7, 4, 4, 1, 4}, -2, 29, 15, 15, 71, 43, 29, 15, 15);
        dueStates(new int[] {5, 3, 1}, 998, 13, 7, 19);
        dueStates(new int[] {7, 4, 4, 1, 4}, 996, 71, 43, 29, 15, 15);
    }

    /** Terms: "JUGGLABLE if no two throws, at two different beats, come down at the same beat". */
    private static void noTwoThrowsComeDownAtTheSameBeat() {
        for (int h = 0; h <= 7; h++) {
            dueAnswer("jugglable()", 1, x -> x.jugglable(), h);
        }
        for (int[] row : JUGGLABLE) {
            dueAnswer("jugglable()", 1, x -> x.jugglable(), row);
        }
        for (int[] row : NOT_JUGGLABLE) {
            dueAnswer("jugglable()", 0, x -> x.jugglable(), row);
        }
        dueAnswer("jugglable(), the first and the last one", 0, x -> x.jugglable(), 5, 1, 6, 7, 1);
        dueAnswer("jugglable(), the last one a row later", 0, x -> x.jugglable(), 1, 6);
        dueAnswer("jugglable(), the last two", 0, x -> x.jugglable(), 5, 5, 5, 1, 0);
        dueAnswer("jugglable(), the first two", 0, x -> x.jugglable(), 1, 0, 5, 5, 5);
    }

    /** Terms: "(throws of height 0 are counted too)". */
    private static void throwsOfHeight0AreCountedToo() {
        dueAnswer("jugglable()", 0, x -> x.jugglable(), 1, 0);
        dueAnswer("jugglable()", 0, x -> x.jugglable(), 0, 1);
        dueAnswer("jugglable()", 0, x -> x.jugglable(), 0, 3);
        dueAnswer("jugglable()", 0, x -> x.jugglable(), 2, 1, 0);
        dueAnswer("jugglable()", 1, x -> x.jugglable(), 2, 0);
        dueAnswer("jugglable()", 1, x -> x.jugglable(), 0, 0);
        dueAnswer("jugglable()", 1, x -> x.jugglable(), 0, 0, 0, 0, 0);
        dueRefused("balls()", NONE, x -> x.balls(), 1, 0);
        dueRefused("state(0)", NONE, x -> x.state(0), 1, 0);
    }

    /** Terms: "A throw of height 0 is no throw of a ball". */
    private static void throwOfHeight0IsNoThrowOfABall() {
        dueAnswer("balls()", 0, x -> x.balls(), 0);
        dueAnswer("state(0)", 0, x -> x.state(0), 0, 0, 0, 0, 0);
        dueAnswer("state(0)", 1, x -> x.state(0), 2, 0);
        dueAnswer("state(1)", 2, x -> x.state(1), 2, 0);
        dueAnswer("orbits()", 0, x -> x.orbits(), 0, 0);
    }

    /** Terms: "the set of all k from 0 to 6 such that a ball is in the air that comes down at beat t + k". */
    private static void stateIsOfAllKFrom0To6() {
        dueAnswer("state(0), a ball comes down at once", 1, x -> x.state(0), 1);
        dueAnswer("state(0), every k", 127, x -> x.state(0), 7);
        dueAnswer("state(0), every k but the last", 63, x -> x.state(0), 6);
        dueAnswer("state(1), the ball thrown just before", 0b1010101, x -> x.state(1), 7, 1);
        dueAnswer("state(0), the ball thrown 7 beats before", 0b0101011, x -> x.state(0), 7, 1);
        dueAnswer("state(0), one ball, just to be thrown", 1, x -> x.state(0), 5, 0, 0, 0, 0);
        dueAnswer("state(1), one ball, just thrown", 16, x -> x.state(1), 5, 0, 0, 0, 0);
    }

    /** Terms: "any height h from 1 to 7 may be chosen such that h is not in s (7 never is)". */
    private static void anyHeightFrom1To7NotInTheSet() {
        for (int h = 2; h <= 7; h++) {
            dueSteps(1, 1 << (h - 1), 1);
        }
        dueSteps(0b101, 0b11, 1);
        dueSteps(0b0111111, 0b1011111, 1);
        dueSteps(0b0111111, 0b1111110, 6);
        dueSteps(1, 0, NONE);
        dueSteps(0b11, 1, NONE);
        dueSteps(0b1000001, 0b0100000, NONE);
        dueSteps(127, 63, NONE);
    }

    /** Terms: "if 0 is not in s nothing is chosen". */
    private static void if0IsNotInTheSetNothingIsChosen() {
        dueSteps(64, 32, 1);
        dueSteps(64, 1, 6);
        dueSteps(32, 64, 6);
        dueSteps(2, 64, 2);
        dueSteps(126, 63, 1);
        dueSteps(126, 127, NONE);
        for (int b = 1; b <= 127; b++) {
            dueSteps(0, b, NONE);
        }
    }

    /** Terms: "ordered by the first throw in which they differ, the lesser height first". */
    private static void lesserHeightOfTheFirstDifferenceFirst() {
        dueAnswer("rank()", 0, x -> x.rank(), 0, 2);
        dueAnswer("rank()", 1, x -> x.rank(), 1, 1);
        dueAnswer("rank()", 2, x -> x.rank(), 2, 0);
        dueAnswer("rank(), the last throw greater", 0, x -> x.rank(), 0, 0, 0, 0, 5);
        dueAnswer("rank(), they differ in the last two alone", 1, x -> x.rank(), 0, 0, 0, 1, 4);
        dueAnswer("rank(), the first throw greatest", 30, x -> x.rank(), 5, 0, 0, 0, 0);
        dueAnswer("rank(), the first throw greatest but one", 29, x -> x.rank(), 4, 0, 0, 0, 1);
    }

    /** Terms: "No call ever throws." */
    private static void noCallEverThrows() {
        int[] odd = {MIN, MIN + 1, -1000, -1, 0, 1, 5, 31, 32, 33, 64, 128, 1000, MAX - 1, MAX};
        for (int a : odd) {
            for (int[] row : JUGGLABLE) {
                due(Arrays.toString(row) + " calls that throw with " + a, callsThatThrow(a, odd, row), 0);
            }
            for (int[] row : NOT_JUGGLABLE) {
                due(Arrays.toString(row) + " calls that throw with " + a, callsThatThrow(a, odd, row), 0);
            }
        }
    }

    private static int callsThatThrow(int a, int[] odd, int[] row) {
        int threw = 0;
        threw += doesThrow(x -> x.put(a), row);
        threw += doesThrow(x -> x.swap(a), row);
        threw += doesThrow(x -> x.height(a), row);
        threw += doesThrow(x -> x.state(a), row);
        threw += doesThrow(x -> x.period(a), row);
        threw += doesThrow(x -> x.count(a), row);
        for (int b : odd) {
            threw += doesThrow(x -> x.set(a, b), row);
            threw += doesThrow(x -> x.load(a, b), row);
            threw += doesThrow(x -> x.steps(a, b), row);
        }
        return threw;
    }

    private static int doesThrow(ToIntFunction<SiteSwaps> call, int[] row) {
        return answer(call, Check.withPattern(row)) == THREW ? 1 : 0;
    }

    /** Promise 1: "The pattern is one throw of height 3." */
    private static void promise1OneThrowOfHeight3() {
        duePattern("new", new SiteSwaps(), 3);
        due("new: height(1)", new SiteSwaps().height(1), NONE);
    }

    /** Promise 2: "height not 0 to 7 answers BAD_ARG". */
    private static void promise2HeightNot0To7() {
        for (int height : NOT_0_TO_7) {
            for (int n = 1; n <= 4; n++) {
                dueRefused("put(" + height + ")", BAD_ARG, x -> x.put(height), JUGGLABLE[n - 1]);
            }
        }
        dueChange("put(0)", 2, x -> x.put(0), row(3, 0), 3);
        dueChange("put(7)", 2, x -> x.put(7), row(3, 7), 3);
        dueChange("put(0)", 5, x -> x.put(0), row(7, 5, 3, 1, 0), 7, 5, 3, 1);
        dueChange("put(7)", 5, x -> x.put(7), row(7, 5, 3, 1, 7), 7, 5, 3, 1);
    }

    /** Promise 2: "FULL. Otherwise the number of throws." */
    private static void promise2Full() {
        for (int height = 0; height <= 7; height++) {
            int put = height;
            dueRefused("put(" + put + ")", FULL, x -> x.put(put), 7, 0, 0, 0, 1);
            dueChange("put(" + put + ")", 5, x -> x.put(put), row(0, 7, 0, 1, put), 0, 7, 0, 1);
        }
        SiteSwaps x = Check.withPattern(7, 6, 5, 4, 3);
        due("put(1), full", x.put(1), FULL);
        due("drop()", x.drop(), 3);
        due("put(1), no more full", x.put(1), 5);
        due("put(1), full again", x.put(1), FULL);
        duePattern("full again", x, 7, 6, 5, 4, 1);
    }

    /** Promise 2: "Tested in this order: height not 0 to 7 answers BAD_ARG; FULL." */
    private static void promise2HeightBeforeFull() {
        for (int height : NOT_0_TO_7) {
            dueRefused("put(" + height + "), full", BAD_ARG, x -> x.put(height), 7, 6, 5, 4, 3);
        }
    }

    /** Promise 3: "NONE if there is only one. Otherwise its height." */
    private static void promise3OnlyOne() {
        for (int h = 0; h <= 7; h++) {
            int only = h;
            dueRefused("drop()", NONE, x -> x.drop(), only);
            dueChange("drop()", only, x -> x.drop(), row(4), 4, only);
            dueChange("drop()", only, x -> x.drop(), row(0, 7, 0, 1), 0, 7, 0, 1, only);
        }
        SiteSwaps x = Check.withPattern(0, 7);
        due("drop()", x.drop(), 7);
        due("drop(), only one now", x.drop(), NONE);
        due("drop(), still only one", x.drop(), NONE);
        duePattern("only one now", x, 0);
    }

    /** Promise 4: "BAD_ARG if i is not 0 to n - 1". */
    private static void promise4INot0ToNLess1() {
        for (int[] row : JUGGLABLE) {
            for (int i : notBelow(row.length)) {
                dueRefused("set(" + i + ", 4)", BAD_ARG, x -> x.set(i, 4), row);
                dueRefused("set(" + i + ", 8)", BAD_ARG, x -> x.set(i, 8), row);
            }
            for (int i = 0; i < row.length; i++) {
                int at = i;
                dueChange("set(" + i + ", 4)", row[i], x -> x.set(at, 4), with(row, i, 4), row);
            }
        }
        SiteSwaps x = Check.withPattern(5, 3, 1);
        x.drop();
        due("set(2, 4), dropped before", x.set(2, 4), BAD_ARG);
        duePattern("set(2, 4), dropped before", x, 5, 3);
    }

    /** Promise 4: "or height not 0 to 7. Otherwise the height before." */
    private static void promise4HeightNot0To7() {
        for (int[] row : JUGGLABLE) {
            for (int i = 0; i < row.length; i++) {
                int at = i;
                for (int height : NOT_0_TO_7) {
                    dueRefused("set(" + i + ", " + height + ")", BAD_ARG, x -> x.set(at, height), row);
                }
                dueChange("set(" + i + ", 0)", row[i], x -> x.set(at, 0), with(row, i, 0), row);
                dueChange("set(" + i + ", 7)", row[i], x -> x.set(at, 7), with(row, i, 7), row);
            }
        }
        dueChange("set(0, 7)", 0, x -> x.set(0, 7), row(7), 0);
        dueChange("set(0, 0)", 7, x -> x.set(0, 0), row(0), 7);
    }

    /** Promise 5: "Throws i and i + 1 (0 behind the last one)". */
    private static void promise5ThrowBehindTheLastOne() {
        dueChange("swap(1)", 1, x -> x.swap(1), row(2, 4), 3, 3);
        dueChange("swap(2)", 1, x -> x.swap(2), row(0, 3, 6), 5, 3, 1);
        dueChange("swap(3)", 1, x -> x.swap(3), row(2, 4, 1, 5), 4, 4, 1, 3);
        dueChange("swap(4)", 1, x -> x.swap(4), row(5, 2, 5, 1, 7), 6, 2, 5, 1, 6);
        dueChange("swap(0)", 1, x -> x.swap(0), row(4, 2), 3, 3);
        dueChange("swap(0)", 1, x -> x.swap(0), row(3, 5, 5, 1, 6), 6, 2, 5, 1, 6);
        dueChange("swap(3), the last but one", 1, x -> x.swap(3), row(6, 2, 5, 7, 0), 6, 2, 5, 1, 6);
    }

    /** Promise 5: "Tested in this order: i not 0 to n - 1 answers BAD_ARG". */
    private static void promise5INot0ToNLess1() {
        for (int[] row : JUGGLABLE) {
            for (int i : notBelow(row.length)) {
                dueRefused("swap(" + i + ")", BAD_ARG, x -> x.swap(i), row);
            }
        }
        for (int i : notBelow(2)) {
            dueRefused("swap(" + i + "), no height would do", BAD_ARG, x -> x.swap(i), 0, 0);
            dueRefused("swap(" + i + "), no height would do", BAD_ARG, x -> x.swap(i), 7, 7);
        }
    }

    /** Promise 5: "n is 1 .. answers NONE". */
    private static void promise5OnlyOne() {
        for (int h = 0; h <= 7; h++) {
            dueRefused("swap(0)", NONE, x -> x.swap(0), h);
        }
        for (int i : notBelow(1)) {
            dueRefused("swap(" + i + ")", BAD_ARG, x -> x.swap(i), 3);
        }
        dueChange("swap(0), of two", 1, x -> x.swap(0), row(4, 2), 3, 3);
    }

    /** Promise 5: "or a height would not be 0 to 7, answers NONE". */
    private static void promise5HeightWouldNotBe0To7() {
        dueRefused("swap(0), 7 plus 1 alone", NONE, x -> x.swap(0), 3, 7);
        dueRefused("swap(0), 0 less 1 alone", NONE, x -> x.swap(0), 0, 3);
        dueRefused("swap(0), both", NONE, x -> x.swap(0), 0, 7);
        dueRefused("swap(1), 7 plus 1 alone, round the end", NONE, x -> x.swap(1), 7, 3);
        dueRefused("swap(1), 0 less 1 alone, round the end", NONE, x -> x.swap(1), 3, 0);
        dueRefused("swap(4), 7 plus 1 alone, round the end", NONE, x -> x.swap(4), 7, 1, 2, 3, 4);
        dueRefused("swap(4), 0 less 1 alone, round the end", NONE, x -> x.swap(4), 4, 1, 2, 3, 0);
        dueRefused("swap(2), 7 plus 1 alone", NONE, x -> x.swap(2), 4, 1, 2, 7, 0);
        dueRefused("swap(2), 0 less 1 alone", NONE, x -> x.swap(2), 4, 1, 0, 6, 7);
        dueChange("swap(0), 6 plus 1", 0, x -> x.swap(0), row(7, 2), 3, 6);
        dueChange("swap(0), 1 less 1", 1, x -> x.swap(0), row(4, 0), 1, 3);
        dueChange("swap(0), both", 0, x -> x.swap(0), row(7, 0), 1, 6);
        dueChange("swap(0), 0 plus 1 and 7 less 1", 0, x -> x.swap(0), row(1, 6), 7, 0);
        dueChange("swap(1), both, round the end", 0, x -> x.swap(1), row(0, 7), 6, 1);
        dueChange("swap(1), beside 0 and 7", 0, x -> x.swap(1), row(0, 5, 2, 7), 0, 3, 4, 7);
    }

    /** Promise 5: "Otherwise 1 if the pattern is jugglable then, else 0." A 0 is no refusal. */
    private static void promise5JugglableThen() {
        dueChange("swap(0)", 1, x -> x.swap(0), row(4, 4, 1), 5, 3, 1);
        dueChange("swap(0)", 0, x -> x.swap(0), row(3, 4, 4), 5, 2, 4);
        dueChange("swap(0), the heights stay", 0, x -> x.swap(0), row(2, 1), 2, 1);
    }

    /** Promise 6: "The first throw becomes the last one; answers its height." */
    private static void promise6FirstBecomesLast() {
        dueChange("turn(), of one", 0, x -> x.turn(), row(0), 0);
        dueChange("turn(), of one", 7, x -> x.turn(), row(7), 7);
        dueChange("turn(), of two", 0, x -> x.turn(), row(7, 0), 0, 7);
        dueChange("turn(), of two", 7, x -> x.turn(), row(0, 7), 7, 0);
        dueChange("turn(), of five", 7, x -> x.turn(), row(0, 0, 0, 1, 7), 7, 0, 0, 0, 1);
        dueChange("turn(), of five", 0, x -> x.turn(), row(7, 6, 5, 4, 0), 0, 7, 6, 5, 4);
        SiteSwaps x = Check.withPattern(1, 0, 7, 2, 6);
        for (int first : new int[] {1, 0, 7, 2, 6}) {
            due("turn(), all round", x.turn(), first);
        }
        duePattern("turned all round", x, 1, 0, 7, 2, 6);
    }

    /** Promise 7: "a throw of height h at beat -d then": the beats below 0 wrap around. */
    private static void promise7BeatsBelow0() {
        for (int h = 0; h <= 7; h++) {
            dueChange("mirror(), of one", 0, x -> x.mirror(), row(h), h);
        }
        dueChange("mirror()", 0, x -> x.mirror(), row(1, 5), 5, 1);
        dueChange("mirror()", 0, x -> x.mirror(), row(1, 5, 0), 5, 0, 1);
        dueChange("mirror()", 0, x -> x.mirror(), row(4, 1, 3, 4), 4, 4, 1, 3);
        dueChange("mirror()", 0, x -> x.mirror(), row(4, 1, 4, 7, 4), 7, 4, 4, 1, 4);
        dueChange("mirror()", 0, x -> x.mirror(), row(7, 4, 4, 1, 4), 4, 1, 4, 7, 4);
        dueChange("mirror()", 0, x -> x.mirror(), row(5, 0, 0, 0, 0), 5, 0, 0, 0, 0);
        dueChange("mirror()", 0, x -> x.mirror(), row(0, 0, 0, 0, 5), 0, 5, 0, 0, 0);
    }

    /** Promise 7: "NONE if it is not jugglable. Otherwise 0." */
    private static void promise7NotJugglable() {
        for (int[] row : NOT_JUGGLABLE) {
            dueRefused("mirror()", NONE, x -> x.mirror(), row);
        }
        dueRefused("mirror(), the last two alone", NONE, x -> x.mirror(), 5, 5, 5, 1, 0);
    }

    /** Promise 8: "n", which is "from 1 to 5". */
    private static void promise8FewestAndMost() {
        for (int[] row : JUGGLABLE) {
            dueAnswer("size()", row.length, x -> x.size(), row);
        }
        SiteSwaps x = new SiteSwaps();
        x.drop();
        due("size() after a refused drop()", x.size(), 1);
        for (int made = 0; made < 6; made++) {
            x.put(0);
        }
        due("size() after refused put()s", x.size(), 5);
        x.put(8);
        due("size() after put(8)", x.size(), 5);
    }

    /** Promise 9: "NONE if there is none." */
    private static void promise9NoSuchThrow() {
        for (int[] row : JUGGLABLE) {
            for (int i : notBelow(row.length)) {
                dueRefused("height(" + i + ")", NONE, x -> x.height(i), row);
            }
            for (int i = 0; i < row.length; i++) {
                int at = i;
                dueAnswer("height(" + i + ")", row[i], x -> x.height(at), row);
            }
        }
        dueAnswer("height(0), the least one", 0, x -> x.height(0), 0, 7);
        dueAnswer("height(1), the greatest one", 7, x -> x.height(1), 0, 7);
        SiteSwaps x = Check.withPattern(5, 3, 1);
        x.drop();
        due("height(2), dropped before", x.height(2), NONE);
    }

    /** Promise 11: "How many balls the pattern has". */
    private static void promise11FewestAndMost() {
        for (int b = 0; b <= 7; b++) {
            dueAnswer("balls()", b, x -> x.balls(), b);
            dueAnswer("balls()", b, x -> x.balls(), b, b, b, b, b);
        }
        dueAnswer("balls()", 1, x -> x.balls(), 0, 0, 0, 0, 5);
        dueAnswer("balls()", 6, x -> x.balls(), 7, 7, 7, 7, 2);
    }

    /** Promise 11: "NONE if it is not jugglable." */
    private static void promise11NotJugglable() {
        for (int[] row : NOT_JUGGLABLE) {
            dueRefused("balls()", NONE, x -> x.balls(), row);
        }
        dueRefused("balls(), the heights could be shared out", NONE, x -> x.balls(), 5, 1, 3);
    }

    /** Promise 12: "BAD_ARG if t is not -1000 to 1000". */
    private static void promise12TNotInRange() {
        for (int[] row : JUGGLABLE) {
            for (int t : NOT_1000) {
                dueRefused("state(" + t + ")", BAD_ARG, x -> x.state(t), row);
            }
        }
        dueAnswer("state(-1000)", 7, x -> x.state(-1000), 3);
        dueAnswer("state(1000)", 7, x -> x.state(1000), 3);
        dueAnswer("state(-1000)", 13, x -> x.state(-1000), 5, 3, 1);
        dueAnswer("state(1000)", 19, x -> x.state(1000), 5, 3, 1);
        dueAnswer("state(-999)", 71, x -> x.state(-999), 7, 5, 3, 1);
        dueAnswer("state(999)", 29, x -> x.state(999), 7, 5, 3, 1);
    }

    /** Promise 12: "NONE if the pattern is not jugglable." */
    private static void promise12NotJugglable() {
        for (int[] row : NOT_JUGGLABLE) {
            for (int t : new int[] {-1000, -1, 0, 1, 1000}) {
                dueRefused("state(" + t + ")", NONE, x -> x.state(t), row);
            }
        }
    }

    /** Promise 13: "1 if the states before beats 0 to n - 1 are all different, else 0". */
    private static void promise13StatesAllDifferent() {
        for (int h = 0; h <= 7; h++) {
            dueAnswer("prime(), of one", 1, x -> x.prime(), h);
            dueAnswer("prime(), of two", 0, x -> x.prime(), h, h);
        }
        dueAnswer("prime()", 1, x -> x.prime(), 5, 3, 1);
        dueAnswer("prime()", 1, x -> x.prime(), 5, 0, 0, 0, 0);
        dueAnswer("prime()", 1, x -> x.prime(), 7, 5, 3, 1);
        dueAnswer("prime(), the first and the last alike", 0, x -> x.prime(), 7, 4, 4, 1, 4);
        dueAnswer("prime(), the first two alike", 0, x -> x.prime(), 4, 7, 4, 4, 1);
        dueAnswer("prime(), the last two alike", 0, x -> x.prime(), 4, 4, 1, 4, 7);
        dueAnswer("prime(), two in the middle alike", 0, x -> x.prime(), 1, 4, 7, 4, 4);
    }

    /** Promise 13: "NONE if the pattern is not jugglable." */
    private static void promise13NotJugglable() {
        for (int[] row : NOT_JUGGLABLE) {
            dueRefused("prime()", NONE, x -> x.prime(), row);
        }
        dueRefused("prime(), all alike but one", NONE, x -> x.prime(), 3, 3, 3, 3, 4);
    }

    /** Promise 14: "BAD_ARG if i is not 0 to n - 1". */
    private static void promise14INot0ToNLess1() {
        for (int[] row : JUGGLABLE) {
            for (int i : notBelow(row.length)) {
                dueRefused("period(" + i + ")", BAD_ARG, x -> x.period(i), row);
            }
        }
        dueAnswer("period(0)", 3, x -> x.period(0), 3);
        dueAnswer("period(0)", 6, x -> x.period(0), 5, 1);
        dueAnswer("period(1)", 6, x -> x.period(1), 5, 1);
        dueAnswer("period(0)", 8, x -> x.period(0), 7, 5, 3, 1);
        dueAnswer("period(3)", 8, x -> x.period(3), 7, 5, 3, 1);
        dueAnswer("period(4)", 5, x -> x.period(4), 0, 0, 0, 0, 5);
        SiteSwaps x = Check.withPattern(3, 3, 3);
        x.drop();
        due("period(2), dropped before", x.period(2), BAD_ARG);
    }

    /** Promise 14: "NONE if its height is 0". */
    private static void promise14Height0() {
        dueRefused("period(0)", NONE, x -> x.period(0), 0);
        dueRefused("period(0)", NONE, x -> x.period(0), 0, 2);
        dueRefused("period(1)", NONE, x -> x.period(1), 2, 0);
        dueRefused("period(4)", NONE, x -> x.period(4), 5, 5, 5, 5, 0);
        dueAnswer("period(1), beside height 0", 2, x -> x.period(1), 0, 2);
        dueAnswer("period(0), height 1", 1, x -> x.period(0), 1);
    }

    /** Promise 14: "or the pattern is not jugglable." */
    private static void promise14NotJugglable() {
        for (int[] row : NOT_JUGGLABLE) {
            for (int i = 0; i < row.length; i++) {
                int at = i;
                dueRefused("period(" + i + ")", NONE, x -> x.period(at), row);
            }
        }
        dueRefused("period(0), height 0 too", NONE, x -> x.period(0), 0, 1);
        dueRefused("period(1), it would come back", NONE, x -> x.period(1), 1, 2);
    }

    /** Promise 14: "The least number of beats after which the ball .. is thrown again by throw i". */
    private static void promise14LeastNumberOfBeats() {
        dueAnswer("period(0), the first time", 7, x -> x.period(0), 7);
        dueAnswer("period(2), after every throw", 5, x -> x.period(2), 1, 1, 1, 1, 1);
        dueAnswer("period(3), the longest", 30, x -> x.period(3), 6, 6, 6, 6, 6);
        dueAnswer("period(1), at once", 5, x -> x.period(1), 5, 5, 5, 5, 5);
    }

    /** Promise 15: "(throws of height 0 do not count)". */
    private static void promise15Height0DoesNotCount() {
        dueAnswer("orbits()", 0, x -> x.orbits(), 0);
        dueAnswer("orbits()", 0, x -> x.orbits(), 0, 0, 0, 0, 0);
        dueAnswer("orbits()", 1, x -> x.orbits(), 5, 0, 0, 0, 0);
        dueAnswer("orbits()", 1, x -> x.orbits(), 0, 0, 0, 0, 5);
        dueAnswer("orbits()", 4, x -> x.orbits(), 5, 5, 0, 5, 5);
        dueAnswer("orbits()", 5, x -> x.orbits(), 5, 5, 5, 5, 5);
        dueAnswer("orbits()", 1, x -> x.orbits(), 6, 6, 6, 6, 6);
        dueAnswer("orbits()", 1, x -> x.orbits(), 1);
    }

    /** Promise 15: "NONE if the pattern is not jugglable." */
    private static void promise15NotJugglable() {
        for (int[] row : NOT_JUGGLABLE) {
            dueRefused("orbits()", NONE, x -> x.orbits(), row);
        }
        dueRefused("orbits(), one throw of a ball alone", NONE, x -> x.orbits(), 0, 0, 0, 0, 1);
    }

    /** Promise 16: "BAD_ARG if b is not 0 to 7." */
    private static void promise16BNot0To7() {
        for (int b : NOT_0_TO_7) {
            for (int[] row : JUGGLABLE) {
                dueRefused("count(" + b + ")", BAD_ARG, x -> x.count(b), row);
            }
            dueRefused("count(" + b + "), not jugglable", BAD_ARG, x -> x.count(b), 2, 1);
        }
        for (int[] row : JUGGLABLE) {
            dueAnswer("count(0)", 1, x -> x.count(0), row);
            dueAnswer("count(7)", 1, x -> x.count(7), row);
        }
    }

    /** Promise 16: "How many jugglable patterns of n throws have b balls", whatever the pattern is. */
    private static void promise16FewestAndMost() {
        int[] ofTwo = {1, 3, 5, 7, 7, 5, 3, 1};
        for (int b = 0; b <= 7; b++) {
            int balls = b;
            dueAnswer("count(" + b + ")", 1, x -> x.count(balls), 3);
            dueAnswer("count(" + b + ")", ofTwo[b], x -> x.count(balls), 5, 1);
            dueAnswer("count(" + b + "), not jugglable", ofTwo[b], x -> x.count(balls), 2, 1);
        }
        dueAnswer("count(1)", 31, x -> x.count(1), 0, 0, 0, 0, 0);
        dueAnswer("count(6)", 31, x -> x.count(6), 0, 0, 0, 0, 0);
    }

    /** Promise 17: "How many .. come before the pattern". */
    private static void promise17FirstAndLast() {
        for (int h = 0; h <= 7; h++) {
            dueAnswer("rank()", 0, x -> x.rank(), h);
        }
        dueAnswer("rank(), the first", 0, x -> x.rank(), 0, 3, 6);
        dueAnswer("rank(), the last", 30, x -> x.rank(), 7, 2, 0);
        dueAnswer("rank(), the first", 0, x -> x.rank(), 0, 0, 0, 4);
        dueAnswer("rank(), the last", 14, x -> x.rank(), 4, 0, 0, 0);
        dueAnswer("rank(), the only one", 0, x -> x.rank(), 0, 0, 0, 0, 0);
        dueAnswer("rank(), the only one", 0, x -> x.rank(), 7, 7, 7, 7, 7);
        dueAnswer("rank(), the last", 30, x -> x.rank(), 7, 7, 7, 7, 2);
        dueAnswer("rank(), the first", 0, x -> x.rank(), 2, 7, 7, 7, 7);
    }

    /** Promise 17: "NONE if it is not jugglable." */
    private static void promise17NotJugglable() {
        for (int[] row : NOT_JUGGLABLE) {
            dueRefused("rank()", NONE, x -> x.rank(), row);
        }
        dueRefused("rank(), the heights could be shared out", NONE, x -> x.rank(), 5, 1, 3);
    }

    /** Promise 18: "BAD_ARG if b is not 0 to 7". */
    private static void promise18BNot0To7() {
        for (int b : NOT_0_TO_7) {
            for (int[] row : JUGGLABLE) {
                dueRefused("load(" + b + ", 0)", BAD_ARG, x -> x.load(b, 0), row);
            }
        }
        dueChange("load(0, 0)", 0, x -> x.load(0, 0), row(0), 3);
        dueChange("load(7, 0)", 0, x -> x.load(7, 0), row(7), 3);
        dueChange("load(0, 0)", 0, x -> x.load(0, 0), row(0, 0, 0, 0, 0), 7, 6, 5, 4, 3);
        dueChange("load(7, 0)", 0, x -> x.load(7, 0), row(7, 7, 7, 7, 7), 7, 6, 5, 4, 3);
    }

    /** Promise 18: "NONE if there is none." */
    private static void promise18NoSuchPattern() {
        int[] patternsWith3Balls = {1, 7, 31};
        for (int n = 1; n <= 3; n++) {
            int patterns = patternsWith3Balls[n - 1];
            for (int k : notBelow(patterns)) {
                dueRefused("load(3, " + k + ")", NONE, x -> x.load(3, k), JUGGLABLE[n - 1]);
            }
        }
        for (int k : notBelow(1)) {
            dueRefused("load(0, " + k + ")", NONE, x -> x.load(0, k), 6, 2, 5, 1, 6);
            dueRefused("load(7, " + k + ")", NONE, x -> x.load(7, k), 6, 2, 5, 1, 6);
            dueRefused("load(7, " + k + "), not jugglable", NONE, x -> x.load(7, k), 2, 1);
        }
        for (int k : notBelow(31)) {
            dueRefused("load(1, " + k + ")", NONE, x -> x.load(1, k), 6, 2, 5, 1, 6);
            dueRefused("load(6, " + k + ")", NONE, x -> x.load(6, k), 6, 2, 5, 1, 6);
        }
    }

    /** Promise 18: "the jugglable one of n throws with b balls that has k such ones before it". */
    private static void promise18FirstAndLast() {
        for (int b = 0; b <= 7; b++) {
            int balls = b;
            dueChange("load(" + b + ", 0)", 0, x -> x.load(balls, 0), row(b), 3);
        }
        dueChange("load(2, 0)", 0, x -> x.load(2, 0), row(0, 4), 2, 1);
        dueChange("load(2, 4)", 0, x -> x.load(2, 4), row(4, 0), 2, 1);
        dueChange("load(3, 0)", 0, x -> x.load(3, 0), row(0, 3, 6), 5, 3, 1);
        dueChange("load(3, 30)", 0, x -> x.load(3, 30), row(7, 2, 0), 5, 3, 1);
        dueChange("load(1, 0)", 0, x -> x.load(1, 0), row(0, 0, 0, 4), 4, 3, 2, 1);
        dueChange("load(1, 14)", 0, x -> x.load(1, 14), row(4, 0, 0, 0), 4, 3, 2, 1);
        dueChange("load(6, 0)", 0, x -> x.load(6, 0), row(2, 7, 7, 7, 7), 6, 2, 5, 1, 6);
        dueChange("load(6, 30)", 0, x -> x.load(6, 30), row(7, 7, 7, 7, 2), 6, 2, 5, 1, 6);
    }

    /** Promise 19: "BAD_ARG if a or b is not 0 to 127". */
    private static void promise19NotASet() {
        for (int s : NOT_0_TO_127) {
            for (int other : new int[] {0, 1, 7, 127}) {
                dueRefused("steps(" + s + ", " + other + ")", BAD_ARG, x -> x.steps(s, other), 5, 3, 1);
                dueRefused("steps(" + other + ", " + s + ")", BAD_ARG, x -> x.steps(other, s), 5, 3, 1);
            }
            dueRefused("steps(" + s + ", " + s + ")", BAD_ARG, x -> x.steps(s, s), 5, 3, 1);
        }
        dueSteps(0, 0, 0);
        dueSteps(127, 127, 0);
        dueSteps(126, 63, 1);
        dueSteps(1, 64, 1);
    }

    /** Promise 19: "NONE if none do." */
    private static void promise19NoWay() {
        dueSteps(0, 127, NONE);
        dueSteps(127, 0, NONE);
        dueSteps(127, 126, NONE);
        dueSteps(7, 3, NONE);
        dueSteps(3, 7, NONE);
        dueSteps(1, 3, NONE);
        dueSteps(64, 0, NONE);
        dueSteps(7, 112, 3);
        dueSteps(112, 7, 4);
    }

    /** Promise 19: "The least number of steps": none at all from a set to itself. */
    private static void promise19NoStep() {
        for (int s = 0; s <= 127; s++) {
            dueSteps(s, s, 0);
        }
    }

    /** Promise 20: "In state .. BAD_ARG is tested before NONE." */
    private static void promise20StateBadArgFirst() {
        for (int[] row : NOT_JUGGLABLE) {
            for (int t : NOT_1000) {
                dueRefused("state(" + t + ")", BAD_ARG, x -> x.state(t), row);
            }
        }
    }

    /** Promise 20: "In .. period .. BAD_ARG is tested before NONE." */
    private static void promise20PeriodBadArgFirst() {
        for (int[] row : NOT_JUGGLABLE) {
            for (int i : notBelow(row.length)) {
                dueRefused("period(" + i + ")", BAD_ARG, x -> x.period(i), row);
            }
        }
        for (int i : notBelow(2)) {
            dueRefused("period(" + i + "), all of height 0", BAD_ARG, x -> x.period(i), 0, 0);
        }
    }

    /** Promise 20: "In .. load .. BAD_ARG is tested before NONE." */
    private static void promise20LoadBadArgFirst() {
        for (int b : NOT_0_TO_7) {
            for (int k : new int[] {MIN, -1, 1, 32768, MAX}) {
                dueRefused("load(" + b + ", " + k + ")", BAD_ARG, x -> x.load(b, k), 3);
                dueRefused("load(" + b + ", " + k + "), not jugglable", BAD_ARG, x -> x.load(b, k), 2, 1);
            }
        }
    }

    /** Promise 20: "In .. steps BAD_ARG is tested before NONE." */
    private static void promise20StepsBadArgFirst() {
        for (int s : NOT_0_TO_127) {
            dueRefused("steps(0, " + s + ")", BAD_ARG, x -> x.steps(0, s), 2, 1);
            dueRefused("steps(" + s + ", 0)", BAD_ARG, x -> x.steps(s, 0), 2, 1);
        }
    }

    /** The states before this beat and the ones after it. */
    private static void dueStates(int[] row, int firstBeat, int... states) {
        for (int i = 0; i < states.length; i++) {
            int t = firstBeat + i;
            dueAnswer("state(" + t + ")", states[i], x -> x.state(t), row);
        }
    }

    private static void dueSteps(int a, int b, int due) {
        dueAnswer("steps(" + a + ", " + b + ")", due, x -> x.steps(a, b), 5, 3, 1);
    }

    /** A call that is refused, or that only asks, leaves the pattern as it was. */
    private static void dueRefused(String call, int code, ToIntFunction<SiteSwaps> made, int... row) {
        dueChange(call, code, made, row, row);
    }

    private static void dueAnswer(String call, int due, ToIntFunction<SiteSwaps> made, int... row) {
        dueChange(call, due, made, row, row);
    }

    /** The pattern is read, and ranked too: a rank can tell of something left behind that no height shows. */
    private static void dueChange(String call, int due, ToIntFunction<SiteSwaps> made, int[] after, int... before) {
        String what = Arrays.toString(before) + " " + call;
        SiteSwaps x = Check.withPattern(before);
        due(what, answer(made, x), due);
        duePattern(what + ", the pattern after it", x, after);
        due(what + ", rank() after it", x.rank(), Check.withPattern(after).rank());
    }

    /** A call that throws must not keep the other sentences from being tested. */
    private static int answer(ToIntFunction<SiteSwaps> made, SiteSwaps x) {
        try {
            return made.applyAsInt(x);
        } catch (RuntimeException thrown) {
            return THREW;
        }
    }

    private static void due(String what, int got, int want) {
        Check.due(sentence() + what, got, want);
    }

    private static void duePattern(String what, SiteSwaps x, int... heights) {
        Check.duePattern(sentence() + what, x, heights);
    }

    /** The method that tests the sentence is the one that main called. */
    private static String sentence() {
        StackTraceElement[] frames = new Throwable().getStackTrace();
        return frames[frames.length - 2].getMethodName() + ": ";
    }

    private static int[] row(int... heights) {
        return heights;
    }

    private static int[] with(int[] row, int i, int height) {
        int[] changed = row.clone();
        changed[i] = height;
        return changed;
    }

    /** Numbers that are not 0 to end - 1: the ones next to it, some that a shift would take for one of it, the farthest ones. */
    private static int[] notBelow(int end) {
        return new int[] {MIN, MIN + 1, -32, -5, -1, end, end + 1, end + 31, 65536 + end, MAX - 1, MAX};
    }
}
