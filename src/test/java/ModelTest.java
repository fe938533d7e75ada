import java.util.Arrays;

/** Every pattern, every load and every pair of sets, and long runs of calls, against the model. */
public final class ModelTest {
    private static final int MOST_CALLS = 512;
    private static final int[] ODD_NUMBERS = {Integer.MIN_VALUE, -1001, -2, -1, 6, 7, 8, 9, 127, 128, 1001, Integer.MAX_VALUE};

    private static final int[][] ONE_OF_EACH_LENGTH = {{3}, {5, 1}, {5, 3, 1}, {7, 5, 3, 1}, {6, 2, 5, 1, 6}};

    /** Fixed, so that every run of this test makes the same calls. */
    private static long seed = 20261115;

    private ModelTest() {
    }

    public static void main(String[] args) {
        for (int n = 1; n <= 5; n++) {
            for (int[] row : Model.allRows(n)) {
                askAllOf(row);
                changeAllOf(row);
            }
            loadAll(n);
        }
        for (int[] row : ONE_OF_EACH_LENGTH) {
            askStatesBeforeAllBeats(row);
        }
        stepBetweenAll();
        for (int run = 0; run < 300; run++) {
            walkAndRead(run);
            walk(run);
        }
        Check.end();
    }

    private static void askAllOf(int[] row) {
        String name = Arrays.toString(row);
        SiteSwaps x = Check.withPattern(row);
        Model model = new Model(row);
        Check.due(name + " jugglable()", x.jugglable(), model.jugglable());
        Check.due(name + " balls()", x.balls(), model.balls());
        Check.due(name + " prime()", x.prime(), model.prime());
        Check.due(name + " orbits()", x.orbits(), model.orbits());
        Check.due(name + " rank()", x.rank(), model.rank());
        for (int t : new int[] {-1001, -1000, -999, -6, -3, -2, -1, 0, 1, 2, 3, 4, 5, 7, 998, 999, 1000, 1001}) {
            Check.due(name + " state(" + t + ")", x.state(t), model.state(t));
        }
        for (int i = -1; i <= row.length; i++) {
            Check.due(name + " period(" + i + ")", x.period(i), model.period(i));
        }
        Check.duePattern(name + " after the questions", x, row);
    }

    private static void changeAllOf(int[] row) {
        for (int i = -1; i <= row.length; i++) {
            SiteSwaps x = Check.withPattern(row);
            Model model = new Model(row);
            Check.due(Arrays.toString(row) + " swap(" + i + ")", x.swap(i), model.swap(i));
            duePattern(Arrays.toString(row) + " after swap(" + i + ")", x, model);
        }
        SiteSwaps x = Check.withPattern(row);
        Model model = new Model(row);
        Check.due(Arrays.toString(row) + " turn()", x.turn(), model.turn());
        duePattern(Arrays.toString(row) + " after turn()", x, model);
        Check.due(Arrays.toString(row) + " mirror() after turn()", x.mirror(), model.mirror());
        duePattern(Arrays.toString(row) + " after turn() and mirror()", x, model);
    }

    private static void loadAll(int n) {
        for (int b = -1; b <= 8; b++) {
            int patterns = new Model(new int[n]).count(b);
            Check.due("n = " + n + " count(" + b + ")", Check.withPattern(new int[n]).count(b), patterns);
            for (int k = -1; k <= patterns; k++) {
                SiteSwaps x = Check.withPattern(new int[n]);
                Model model = new Model(new int[n]);
                String call = "n = " + n + " load(" + b + ", " + k + ")";
                Check.due(call, x.load(b, k), model.load(b, k));
                duePattern("after " + call, x, model);
            }
        }
    }

    private static void askStatesBeforeAllBeats(int[] row) {
        Model model = new Model(row);
        for (int t = -1001; t <= 1001; t++) {
            Check.due(Arrays.toString(row) + " state(" + t + ")", Check.withPattern(row).state(t), model.state(t));
        }
    }

    private static void stepBetweenAll() {
        Model model = new Model(3);
        for (int a = -1; a <= 128; a++) {
            SiteSwaps x = new SiteSwaps();
            for (int b = -1; b <= 128; b++) {
                Check.due("steps(" + a + ", " + b + ")", x.steps(a, b), model.steps(a, b));
            }
        }
    }

    /** A run on one object, as long as the document allows, with the pattern read after each call. */
    private static void walkAndRead(int run) {
        SiteSwaps x = new SiteSwaps();
        Model model = new Model(3);
        int callsOfOneTurn = 1 + 6;
        for (int made = 0; made + callsOfOneTurn <= MOST_CALLS; made += callsOfOneTurn) {
            String name = "walk with reading " + run + " after at most " + made + " calls";
            takeOneCall(name, x, model);
            duePattern(name, x, model);
        }
    }

    /** A run of 512 calls on one object, each chosen without regard to the ones before. */
    private static void walk(int run) {
        SiteSwaps x = new SiteSwaps();
        Model model = new Model(3);
        for (int made = 0; made < MOST_CALLS; made++) {
            takeOneCall("walk " + run + " after " + made + " calls", x, model);
        }
    }

    private static void takeOneCall(String where, SiteSwaps x, Model model) {
        int call = next(21);
        int a = argument();
        int b = argument();
        String name = where + ": call " + call + " (" + a + ", " + b + ")";
        Check.due(name, ofProgram(x, call, a, b), ofModel(model, call, a, b));
    }

    private static int ofProgram(SiteSwaps x, int call, int a, int b) {
        switch (call) {
            case 0: return x.drop();
            case 1: return x.set(a, b);
            case 2: return x.swap(a);
            case 3: return x.turn();
            case 4: return x.mirror();
            case 5: return x.size();
            case 6: return x.height(a);
            case 7: return x.jugglable();
            case 8: return x.balls();
            case 9: return x.state(a);
            case 10: return x.prime();
            case 11: return x.period(a);
            case 12: return x.orbits();
            case 13: return x.count(a);
            case 14: return x.rank();
            case 15: return x.load(a, b);
            case 16: return x.load(a, 11 * (b & 31));
            case 17: return x.steps(a, b);
            case 18: return x.steps(7 * (a & 15), 11 * (b & 7));
            default: return x.put(a);
        }
    }

    private static int ofModel(Model x, int call, int a, int b) {
        switch (call) {
            case 0: return x.drop();
            case 1: return x.set(a, b);
            case 2: return x.swap(a);
            case 3: return x.turn();
            case 4: return x.mirror();
            case 5: return x.size();
            case 6: return x.height(a);
            case 7: return x.jugglable();
            case 8: return x.balls();
            case 9: return x.state(a);
            case 10: return x.prime();
            case 11: return x.period(a);
            case 12: return x.orbits();
            case 13: return x.count(a);
            case 14: return x.rank();
            case 15: return x.load(a, b);
            case 16: return x.load(a, 11 * (b & 31));
            case 17: return x.steps(a, b);
            case 18: return x.steps(7 * (a & 15), 11 * (b & 7));
            default: return x.put(a);
        }
    }

    private static void duePattern(String what, SiteSwaps x, Model model) {
        int[] heights = new int[model.size()];
        for (int i = 0; i < heights.length; i++) {
            heights[i] = model.height(i);
        }
        Check.duePattern(what, x, heights);
    }

    private static int argument() {
        return next(8) == 0 ? ODD_NUMBERS[next(ODD_NUMBERS.length)] : next(8);
    }

    private static int next(int bound) {
        seed = seed * 6364136223846793005L + 1442695040888963407L;
        return (int) ((seed >>> 33) % bound);
    }
}
