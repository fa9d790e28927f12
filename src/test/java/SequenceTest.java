/** Promises 22 to 25: sorted, slack, isPossible, meanDegree. */
public final class SequenceTest {
    public static void main(String[] args) {
        promise22();
        promise23();
        promise24();
        promise25();
        Check.end();
    }

    private static void promise22() {
        SwitchGraphs x = Texts.of("degrees 1 5 0 3 3;");
        int[] sorted = {5, 3, 3, 1, 0};
        for (int k = 0; k < 5; k++) {
            Check.is("sorted " + k, x.sorted(k), sorted[k]);
        }
        Check.throwing("sorted 5", Texts.INDEX, () -> x.sorted(5));
        Check.throwing("sorted -1", Texts.INDEX, () -> x.sorted(-1));
    }

    private static void promise23() {
        // Sorted 5 3 3 1 0: e.g. slack 2 is 2 + (2 + 1 + 0) - (5 + 3).
        SwitchGraphs x = Texts.of("degrees 1 5 0 3 3;");
        int[] slacks = {-2, -3, -4, 0, 8};
        for (int k = 1; k <= 5; k++) {
            Check.is("slack " + k, x.slack(k), slacks[k - 1]);
        }
        Check.throwing("slack 0", Texts.INDEX, () -> x.slack(0));
        Check.throwing("slack 6", Texts.INDEX, () -> x.slack(6));
        Check.throwing("slack -1", Texts.INDEX, () -> x.slack(-1));
    }

    private static void promise24() {
        possible("degrees 0;", true, true);
        possible("degrees 2;", false, false);
        possible("degrees 2 2;", true, false);
        possible("degrees 3 1;", false, false);
        possible("degrees 1 1 2;", true, true);
        possible("degrees 3 3 3 3;", true, true);
        possible("degrees 3 3 1 1;", true, false);
        possible("degrees 4 1 1 1 1;", true, true);
        possible("degrees 4 4 4 2 2 0;", true, false);
        possible("degrees 6 1 1 1 1;", false, false);
        possible("vertices 3; edge 0 0; target 0 1; target 1 2; target 2 0;", false, false);
        SwitchGraphs x = new SwitchGraphs();
        Check.throwing("mode 3", Texts.ARGUMENT, () -> x.isPossible(3));
        Check.throwing("mode -1", Texts.ARGUMENT, () -> x.isPossible(-1));
    }

    private static void possible(String text, boolean withoutLoops, boolean simple) {
        SwitchGraphs x = Texts.of(text);
        Check.is("with loops: " + text, x.isPossible(0), true);
        Check.is("without loops: " + text, x.isPossible(1), withoutLoops);
        Check.is("simple: " + text, x.isPossible(2), simple);
    }

    private static void promise25() {
        Check.is("no edges", new SwitchGraphs().meanDegree(), 0.0);
        Check.is("4 / 3", Texts.of("vertices 3; edge 0 0; edge 0 1; target 1 1;").meanDegree(),
                4.0 / 3.0);
        Check.is("1 / 4", Texts.of("vertices 8; edge 0 1;").meanDegree(), 0.25);
        Check.is("32", Texts.of("degrees 32;").meanDegree(), 32.0);
    }
}
