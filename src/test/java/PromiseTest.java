/** Each promise of the document by itself: ordinary inputs, its edges, wrong inputs. */
public final class PromiseTest {
    private static final int BAD_ARG = -1;
    private static final int FULL = -2;
    private static final int NONE = -4;
    private static final int MIN = Integer.MIN_VALUE;
    private static final int MAX = Integer.MAX_VALUE;

    private PromiseTest() {
    }

    public static void main(String[] args) {
        promise1NewObject();
        promise2Put();
        promise3Drop();
        promise4Set();
        promise5Swap();
        promise5SwapRefused();
        promise6Turn();
        promise7Mirror();
        promise8Size();
        promise9Height();
        promise10Jugglable();
        promise11Balls();
        promise12State();
        promise13Prime();
        promise14Period();
        promise15Orbits();
        promise16Count();
        promise17Rank();
        promise18Load();
        promise19Steps();
        promise20OrderAndLimits();
        Check.end();
    }

    private static void promise1NewObject() {
        Check.duePattern("1: new", new SiteSwaps(), 3);
        SiteSwaps x = new SiteSwaps();
        x.put(5);
        Check.duePattern("1: new, beside another one", new SiteSwaps(), 3);
    }

    private static void promise2Put() {
        SiteSwaps x = new SiteSwaps();
        Check.due("2: put(0)", x.put(0), 2);
        Check.due("2: put(7)", x.put(7), 3);
        Check.due("2: put(8)", x.put(8), BAD_ARG);
        Check.due("2: put(-1)", x.put(-1), BAD_ARG);
        Check.due("2: put(MIN)", x.put(MIN), BAD_ARG);
        Check.due("2: put(MAX)", x.put(MAX), BAD_ARG);
        Check.duePattern("2: after refused put", x, 3, 0, 7);
        Check.due("2: put(4)", x.put(4), 4);
        Check.due("2: put(1)", x.put(1), 5);
        Check.due("2: put(1) when full", x.put(1), FULL);
        Check.due("2: put(8) when full", x.put(8), BAD_ARG);
        Check.due("2: put(-1) when full", x.put(-1), BAD_ARG);
        Check.duePattern("2: full", x, 3, 0, 7, 4, 1);
    }

    private static void promise3Drop() {
        SiteSwaps x = Check.withPattern(6, 0, 7, 4, 1);
        Check.due("3: drop()", x.drop(), 1);
        Check.due("3: drop()", x.drop(), 4);
        Check.duePattern("3: after two drops", x, 6, 0, 7);
        Check.due("3: drop()", x.drop(), 7);
        Check.due("3: drop()", x.drop(), 0);
        Check.due("3: drop() of the only one", x.drop(), NONE);
        Check.duePattern("3: after refused drop", x, 6);
        Check.due("3: put(2) after drops", x.put(2), 2);
        Check.duePattern("3: put after drops", x, 6, 2);
    }

    private static void promise4Set() {
        SiteSwaps x = Check.withPattern(6, 0, 7);
        Check.due("4: set(0, 1)", x.set(0, 1), 6);
        Check.due("4: set(2, 0)", x.set(2, 0), 7);
        Check.due("4: set(1, 7)", x.set(1, 7), 0);
        Check.due("4: set(1, 7) again", x.set(1, 7), 7);
        Check.due("4: set(3, 1)", x.set(3, 1), BAD_ARG);
        Check.due("4: set(-1, 1)", x.set(-1, 1), BAD_ARG);
        Check.due("4: set(0, 8)", x.set(0, 8), BAD_ARG);
        Check.due("4: set(0, -1)", x.set(0, -1), BAD_ARG);
        Check.due("4: set(MIN, MIN)", x.set(MIN, MIN), BAD_ARG);
        Check.due("4: set(MAX, MAX)", x.set(MAX, MAX), BAD_ARG);
        Check.duePattern("4: after sets", x, 1, 7, 0);
    }

    private static void promise5Swap() {
        SiteSwaps x = Check.withPattern(5, 3, 1);
        Check.due("5: swap(0)", x.swap(0), 1);
        Check.duePattern("5: swap(0)", x, 4, 4, 1);
        Check.due("5: swap(0) of equal heights", x.swap(0), 1);
        Check.duePattern("5: swap(0) of equal heights", x, 5, 3, 1);
        Check.due("5: swap(2), round the end", x.swap(2), 1);
        Check.duePattern("5: swap(2), round the end", x, 0, 3, 6);
        SiteSwaps two = Check.withPattern(3, 3);
        Check.due("5: swap(1) of two", two.swap(1), 1);
        Check.duePattern("5: swap(1) of two", two, 2, 4);
        SiteSwaps apart = Check.withPattern(5, 2, 4);
        Check.due("5: not jugglable after", apart.swap(0), 0);
        Check.duePattern("5: not jugglable after", apart, 3, 4, 4);
    }

    private static void promise5SwapRefused() {
        SiteSwaps one = new SiteSwaps();
        Check.due("5: swap(0) of one", one.swap(0), NONE);
        Check.due("5: swap(1) of one", one.swap(1), BAD_ARG);
        Check.due("5: swap(-1) of one", one.swap(-1), BAD_ARG);
        Check.duePattern("5: one", one, 3);
        SiteSwaps x = Check.withPattern(0, 2, 7, 1);
        Check.due("5: swap(0), 0 less 1", x.swap(0), NONE);
        Check.due("5: swap(1), 7 plus 1", x.swap(1), NONE);
        Check.due("5: swap(4)", x.swap(4), BAD_ARG);
        Check.due("5: swap(-1)", x.swap(-1), BAD_ARG);
        Check.due("5: swap(MIN)", x.swap(MIN), BAD_ARG);
        Check.due("5: swap(MAX)", x.swap(MAX), BAD_ARG);
        Check.duePattern("5: after refused swaps", x, 0, 2, 7, 1);
        SiteSwaps edge = Check.withPattern(1, 6);
        Check.due("5: swap(0) to both edges", edge.swap(0), 0);
        Check.duePattern("5: to both edges", edge, 7, 0);
    }

    private static void promise6Turn() {
        SiteSwaps x = Check.withPattern(5, 0, 7, 2, 1);
        Check.due("6: turn()", x.turn(), 5);
        Check.duePattern("6: turned once", x, 0, 7, 2, 1, 5);
        Check.due("6: turn()", x.turn(), 0);
        Check.duePattern("6: turned twice", x, 7, 2, 1, 5, 0);
        SiteSwaps one = new SiteSwaps();
        Check.due("6: turn() of one", one.turn(), 3);
        Check.duePattern("6: one", one, 3);
    }

    private static void promise7Mirror() {
        SiteSwaps x = Check.withPattern(4, 4, 1, 3);
        Check.due("7: mirror()", x.mirror(), 0);
        Check.duePattern("7: mirror()", x, 4, 1, 3, 4);
        SiteSwaps zero = Check.withPattern(5, 0, 1);
        Check.due("7: mirror() with a throw of height 0", zero.mirror(), 0);
        Check.duePattern("7: with a throw of height 0", zero, 1, 5, 0);
        SiteSwaps one = new SiteSwaps();
        Check.due("7: mirror() of one", one.mirror(), 0);
        Check.duePattern("7: one", one, 3);
        SiteSwaps bad = Check.withPattern(4, 3, 2, 6);
        Check.due("7: mirror(), not jugglable", bad.mirror(), NONE);
        Check.duePattern("7: not jugglable", bad, 4, 3, 2, 6);
    }

    private static void promise8Size() {
        SiteSwaps x = new SiteSwaps();
        for (int n = 1; n <= 5; n++) {
            Check.due("8: size()", x.size(), n);
            x.put(n);
        }
        Check.due("8: size() after FULL", x.size(), 5);
        x.drop();
        Check.due("8: size() after drop", x.size(), 4);
    }

    private static void promise9Height() {
        SiteSwaps x = Check.withPattern(7, 0, 4);
        Check.due("9: height(0)", x.height(0), 7);
        Check.due("9: height(1)", x.height(1), 0);
        Check.due("9: height(2)", x.height(2), 4);
        Check.due("9: height(3)", x.height(3), NONE);
        Check.due("9: height(-1)", x.height(-1), NONE);
        Check.due("9: height(MIN)", x.height(MIN), NONE);
        Check.due("9: height(MAX)", x.height(MAX), NONE);
        x.drop();
        Check.due("9: height(2) after drop", x.height(2), NONE);
    }

    private static void promise10Jugglable() {
        Check.due("10: 0", Check.withPattern(0).jugglable(), 1);
        Check.due("10: 7", Check.withPattern(7).jugglable(), 1);
        Check.due("10: 531", Check.withPattern(5, 3, 1).jugglable(), 1);
        Check.due("10: 7531", Check.withPattern(7, 5, 3, 1).jugglable(), 1);
        Check.due("10: 76543", Check.withPattern(7, 6, 5, 4, 3).jugglable(), 0);
        Check.due("10: 21", Check.withPattern(2, 1).jugglable(), 0);
        Check.due("10: 10, both down at the throw of height 0", Check.withPattern(1, 0).jugglable(), 0);
        Check.due("10: 44444", Check.withPattern(4, 4, 4, 4, 4).jugglable(), 1);
        Check.due("10: 54, the average is no whole number", Check.withPattern(5, 4).jugglable(), 0);
        Check.due("10: 513, the average is a whole number", Check.withPattern(5, 1, 3).jugglable(), 0);
        Check.due("10: 5030, the average is a whole number", Check.withPattern(5, 0, 3, 0).jugglable(), 0);
    }

    private static void promise11Balls() {
        Check.due("11: 0", Check.withPattern(0).balls(), 0);
        Check.due("11: 7", Check.withPattern(7).balls(), 7);
        Check.due("11: 531", Check.withPattern(5, 3, 1).balls(), 3);
        Check.due("11: 50505", Check.withPattern(5, 0, 5, 0, 5).balls(), 3);
        Check.due("11: 50000", Check.withPattern(5, 0, 0, 0, 0).balls(), 1);
        Check.due("11: 321, not jugglable", Check.withPattern(3, 2, 1).balls(), NONE);
    }

    private static void promise12State() {
        SiteSwaps x = Check.withPattern(5, 3, 1);
        Check.due("12: state(0)", x.state(0), 7);
        Check.due("12: state(1)", x.state(1), 19);
        Check.due("12: state(2)", x.state(2), 13);
        Check.due("12: state(-1)", x.state(-1), 13);
        Check.due("12: state(-1000)", x.state(-1000), 13);
        Check.due("12: state(1000)", x.state(1000), 19);
        Check.due("12: state(1001)", x.state(1001), BAD_ARG);
        Check.due("12: state(-1001)", x.state(-1001), BAD_ARG);
        Check.due("12: state(MIN)", x.state(MIN), BAD_ARG);
        Check.due("12: state(MAX)", x.state(MAX), BAD_ARG);
        Check.due("12: no ball", Check.withPattern(0, 0).state(0), 0);
        Check.due("12: 7 balls", Check.withPattern(7).state(5), 127);
        SiteSwaps farthest = Check.withPattern(7, 1);
        Check.due("12: the ball thrown last comes down in 6", farthest.state(1), 0b1010101);
        Check.due("12: the ball thrown last comes down at once", farthest.state(2), 0b0101011);
        SiteSwaps bad = Check.withPattern(3, 2, 1);
        Check.due("12: not jugglable", bad.state(0), NONE);
        Check.due("12: not jugglable, at the edge", bad.state(1000), NONE);
    }

    private static void promise13Prime() {
        Check.due("13: 3", new SiteSwaps().prime(), 1);
        Check.due("13: 33", Check.withPattern(3, 3).prime(), 0);
        Check.due("13: 531", Check.withPattern(5, 3, 1).prime(), 1);
        Check.due("13: 4413, the last state is the first one", Check.withPattern(4, 4, 1, 3).prime(), 0);
        Check.due("13: 3441", Check.withPattern(3, 4, 4, 1).prime(), 0);
        Check.due("13: 1344", Check.withPattern(1, 3, 4, 4).prime(), 0);
        Check.due("13: 00000", Check.withPattern(0, 0, 0, 0, 0).prime(), 0);
        Check.due("13: 321, not jugglable", Check.withPattern(3, 2, 1).prime(), NONE);
    }

    private static void promise14Period() {
        SiteSwaps x = Check.withPattern(5, 3, 1);
        Check.due("14: period(0)", x.period(0), 6);
        Check.due("14: period(1)", x.period(1), 3);
        Check.due("14: period(2)", x.period(2), 6);
        Check.due("14: period(3)", x.period(3), BAD_ARG);
        Check.due("14: period(-1)", x.period(-1), BAD_ARG);
        Check.due("14: period(MIN)", x.period(MIN), BAD_ARG);
        Check.due("14: period(MAX)", x.period(MAX), BAD_ARG);
        SiteSwaps zero = Check.withPattern(5, 0, 1);
        Check.due("14: height 0", zero.period(1), NONE);
        Check.due("14: beside height 0", zero.period(2), 6);
        Check.due("14: the longest", Check.withPattern(6, 6, 6, 6, 6).period(3), 30);
        SiteSwaps bad = Check.withPattern(0, 2, 1);
        Check.due("14: not jugglable, height 0", bad.period(0), NONE);
        Check.due("14: not jugglable", bad.period(1), NONE);
        Check.due("14: not jugglable, no throw", bad.period(3), BAD_ARG);
    }

    private static void promise15Orbits() {
        Check.due("15: 3", new SiteSwaps().orbits(), 1);
        Check.due("15: 0", Check.withPattern(0).orbits(), 0);
        Check.due("15: 531", Check.withPattern(5, 3, 1).orbits(), 2);
        Check.due("15: 441", Check.withPattern(4, 4, 1).orbits(), 1);
        Check.due("15: 501", Check.withPattern(5, 0, 1).orbits(), 1);
        Check.due("15: 333", Check.withPattern(3, 3, 3).orbits(), 3);
        Check.due("15: 50505", Check.withPattern(5, 0, 5, 0, 5).orbits(), 3);
        Check.due("15: 11111", Check.withPattern(1, 1, 1, 1, 1).orbits(), 1);
        Check.due("15: 321, not jugglable", Check.withPattern(3, 2, 1).orbits(), NONE);
    }

    private static void promise16Count() {
        SiteSwaps x = Check.withPattern(5, 3, 1);
        Check.due("16: count(0)", x.count(0), 1);
        Check.due("16: count(1)", x.count(1), 7);
        Check.due("16: count(2)", x.count(2), 19);
        Check.due("16: count(3), no height above 7", x.count(3), 31);
        Check.due("16: count(7)", x.count(7), 1);
        Check.due("16: count(8)", x.count(8), BAD_ARG);
        Check.due("16: count(-1)", x.count(-1), BAD_ARG);
        Check.due("16: count(MIN)", x.count(MIN), BAD_ARG);
        Check.due("16: count(MAX)", x.count(MAX), BAD_ARG);
        x.set(0, 4);
        Check.due("16: count(1), the pattern not jugglable", x.count(1), 7);
        Check.duePattern("16: the pattern stays", x, 4, 3, 1);
        Check.due("16: n = 1", new SiteSwaps().count(6), 1);
        Check.due("16: n = 5", Check.withPattern(0, 0, 0, 0, 0).count(2), 191);
    }

    private static void promise17Rank() {
        Check.due("17: 3", new SiteSwaps().rank(), 0);
        Check.due("17: 04", Check.withPattern(0, 4).rank(), 0);
        Check.due("17: 13", Check.withPattern(1, 3).rank(), 1);
        Check.due("17: 22", Check.withPattern(2, 2).rank(), 2);
        Check.due("17: 40", Check.withPattern(4, 0).rank(), 4);
        Check.due("17: 531", Check.withPattern(5, 3, 1).rank(), 25);
        Check.due("17: 4413", Check.withPattern(4, 4, 1, 3).rank(), 79);
        Check.due("17: 321, not jugglable", Check.withPattern(3, 2, 1).rank(), NONE);
    }

    private static void promise18Load() {
        SiteSwaps x = Check.withPattern(3, 2);
        Check.due("18: load(2, 0)", x.load(2, 0), 0);
        Check.duePattern("18: load(2, 0)", x, 0, 4);
        Check.due("18: load(2, 1)", x.load(2, 1), 0);
        Check.duePattern("18: load(2, 1)", x, 1, 3);
        Check.due("18: load(2, 4)", x.load(2, 4), 0);
        Check.duePattern("18: load(2, 4)", x, 4, 0);
        Check.due("18: load(2, 5)", x.load(2, 5), NONE);
        Check.due("18: load(2, -1)", x.load(2, -1), NONE);
        Check.due("18: load(2, MIN)", x.load(2, MIN), NONE);
        Check.due("18: load(2, MAX)", x.load(2, MAX), NONE);
        Check.due("18: load(8, 0)", x.load(8, 0), BAD_ARG);
        Check.due("18: load(-1, 0)", x.load(-1, 0), BAD_ARG);
        Check.due("18: load(MIN, 0)", x.load(MIN, 0), BAD_ARG);
        Check.due("18: load(MAX, 0)", x.load(MAX, 0), BAD_ARG);
        Check.duePattern("18: after refused loads", x, 4, 0);
        Check.due("18: load(7, 0)", x.load(7, 0), 0);
        Check.duePattern("18: load(7, 0)", x, 7, 7);
        Check.due("18: load(0, 0)", x.load(0, 0), 0);
        Check.duePattern("18: load(0, 0)", x, 0, 0);
        Check.due("18: load(0, 1)", x.load(0, 1), NONE);
    }

    private static void promise19Steps() {
        SiteSwaps x = Check.withPattern(3, 2);
        Check.due("19: steps(7, 7)", x.steps(7, 7), 0);
        Check.due("19: steps(0, 0)", x.steps(0, 0), 0);
        Check.due("19: steps(127, 127)", x.steps(127, 127), 0);
        Check.due("19: steps(7, 19), a throw of height 5", x.steps(7, 19), 1);
        Check.due("19: steps(64, 1), nothing chosen", x.steps(64, 1), 6);
        Check.due("19: steps(1, 64), a throw of height 7", x.steps(1, 64), 1);
        Check.due("19: steps(2, 64)", x.steps(2, 64), 2);
        Check.due("19: steps(64, 32)", x.steps(64, 32), 1);
        Check.due("19: steps(32, 64)", x.steps(32, 64), 6);
        Check.due("19: steps(7, 112)", x.steps(7, 112), 3);
        Check.due("19: steps(7, 3), not as many", x.steps(7, 3), NONE);
        Check.due("19: steps(0, 1)", x.steps(0, 1), NONE);
        Check.due("19: steps(127, 126)", x.steps(127, 126), NONE);
        Check.due("19: steps(128, 0)", x.steps(128, 0), BAD_ARG);
        Check.due("19: steps(0, 128)", x.steps(0, 128), BAD_ARG);
        Check.due("19: steps(-1, 0)", x.steps(-1, 0), BAD_ARG);
        Check.due("19: steps(0, -1)", x.steps(0, -1), BAD_ARG);
        Check.due("19: steps(-1, -1)", x.steps(-1, -1), BAD_ARG);
        Check.due("19: steps(MIN, MAX)", x.steps(MIN, MAX), BAD_ARG);
        Check.duePattern("19: the pattern stays", x, 3, 2);
    }

    private static void promise20OrderAndLimits() {
        SiteSwaps bad = Check.withPattern(0, 2, 1);
        Check.due("20: state(1001), not jugglable", bad.state(1001), BAD_ARG);
        Check.due("20: state(-1001), not jugglable", bad.state(-1001), BAD_ARG);
        Check.due("20: period(3), not jugglable", bad.period(3), BAD_ARG);
        Check.due("20: period(-1), not jugglable", bad.period(-1), BAD_ARG);
        Check.due("20: load(8, -1)", bad.load(8, -1), BAD_ARG);
        Check.due("20: load(-1, 100000)", bad.load(-1, 100000), BAD_ARG);
        Check.due("20: steps(7, 128)", bad.steps(7, 128), BAD_ARG);
        Check.due("20: steps(-1, 7)", bad.steps(-1, 7), BAD_ARG);
        Check.duePattern("20: the pattern stays", bad, 0, 2, 1);
    }
}
