/** Counts and prints the answers that are not the ones that are due. */
final class Check {
    private static int asked = 0;
    private static int wrong = 0;

    private Check() {
    }

    static void due(String what, long got, long want) {
        asked++;
        if (got != want) {
            wrong++;
            System.out.println(what + " answered " + got + ", due is " + want);
        }
    }

    /** The object's pattern, by size and height, is this one. */
    static void duePattern(String what, SiteSwaps x, int... heights) {
        due(what + ": size()", x.size(), heights.length);
        for (int i = 0; i < heights.length; i++) {
            due(what + ": height(" + i + ")", x.height(i), heights[i]);
        }
    }

    static SiteSwaps withPattern(int... heights) {
        SiteSwaps x = new SiteSwaps();
        x.set(0, heights[0]);
        for (int i = 1; i < heights.length; i++) {
            x.put(heights[i]);
        }
        return x;
    }

    static void end() {
        System.out.println(wrong == 0 ? asked + " answers are as due" : wrong + " of " + asked + " answers are not as due");
        if (wrong != 0) {
            System.exit(1);
        }
    }
}
