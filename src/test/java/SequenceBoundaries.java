/** Promises 22 to 25, at their boundaries. */
final class SequenceBoundaries {
    private SequenceBoundaries() {
    }

    static void run() {
        promise22();
        promise23();
        promise24();
        promise25();
    }

    private static SwitchGraphs of(int vertices, String graph) {
        return Texts.made(vertices, 0, graph, "");
    }

    // ---- promise 22

    private static void promise22() {
        Sentence.test("Promise 22", "Returns the k-th greatest degree of the graph.",
                SequenceBoundaries::sortedDegrees);
        Sentence.test("Promise 22", "- `k`: 0 for the greatest one",
                SequenceBoundaries::firstAndLastDegree);
        Sentence.test("Promise 22",
                "Throws `IndexOutOfBoundsException` if k is not less than the number of vertices,"
                        + " or less than 0",
                SequenceBoundaries::sortedOutOfRange);
    }

    private static void sorted(String degrees, int... due) {
        SwitchGraphs x = Texts.of("degrees " + degrees + ";");
        for (int k = 0; k < due.length; k++) {
            Check.is(k + " of " + degrees, x.sorted(k), due[k]);
        }
    }

    private static void sortedDegrees() {
        sorted("0", 0);
        sorted("32", 32);
        sorted("0 32", 32, 0);
        sorted("1 2 3 4 5 6 0 7", 7, 6, 5, 4, 3, 2, 1, 0);
        sorted("7 6 5 4 3 2 1 0", 7, 6, 5, 4, 3, 2, 1, 0);
        sorted("4 4 4 4 4 4 4 4", 4, 4, 4, 4, 4, 4, 4, 4);
        sorted("1 2 1 2", 2, 2, 1, 1);
        SwitchGraphs x = Texts.made(3, 0, "0-1", "2-2x16");
        Check.is("not of the target", x.sorted(0), 1);
        x.addEdge(1, 1);
        Check.is("of the graph as it is now", x.sorted(0), 3);
    }

    private static void firstAndLastDegree() {
        SwitchGraphs x = Texts.of("degrees 1 5 0 3 3;");
        Check.is("the greatest", x.sorted(0), 5);
        Check.is("the next", x.sorted(1), 3);
        Check.is("the one but last", x.sorted(3), 1);
        Check.is("the last", x.sorted(4), 0);
        Check.throwing("before the greatest", Texts.INDEX, () -> x.sorted(-1));
        Check.throwing("behind the last", Texts.INDEX, () -> x.sorted(5));
    }

    private static void sortedOutOfRange() {
        for (int n = 1; n <= 8; n++) {
            Refused.outside("k", Texts.INDEX, "vertices " + n + ";", 0, n - 1,
                    (x, k) -> x.sorted(k));
        }
    }

    // ---- promise 23

    private static void promise23() {
        Sentence.test("Promise 23, GRAPHS",
                "The slack of k (1 to the number of vertices) is k * (k - 1) plus the sum of the"
                        + " smaller one of k and d over all degrees d but the k greatest ones,"
                        + " minus the sum of the k greatest degrees.",
                SequenceBoundaries::slacksOfAllK);
        Sentence.test("Promise 23", "Returns the slack of k for the degrees of the graph.",
                SequenceBoundaries::slackOfTheGraph);
        Sentence.test("Promise 23", "- `k`: 1 to the number of vertices",
                SequenceBoundaries::firstAndLastSlack);
        Sentence.test("Promise 23", "Throws `IndexOutOfBoundsException` if k is out of range",
                SequenceBoundaries::slackOutOfRange);
    }

    private static void slacks(String degrees, int... due) {
        SwitchGraphs x = Texts.of("degrees " + degrees + ";");
        for (int k = 1; k <= due.length; k++) {
            Check.is("slack " + k + " of " + degrees, x.slack(k), due[k - 1]);
        }
    }

    private static void slacksOfAllK() {
        slacks("0", 0);
        slacks("2", -2);
        slacks("32", -32);
        // 0 + 1 - 1, 2 + 0 - 2.
        slacks("1 1", 0, 0);
        // The degrees but the greatest are 2, which is more than k = 1: 0 + 1 - 2, 2 + 0 - 4.
        slacks("2 2", -1, -2);
        // With k = 2 the others are less than, as great as and greater than k.
        slacks("4 4 3 2 1", 0 + 4 - 4, 2 + 5 - 8, 6 + 3 - 11, 12 + 1 - 13, 20 + 0 - 14);
        slacks("3 3 3 3", 0, 0, 0, 0);
        slacks("2 4 4 4 6 6 6", 0 + 6 - 6, 2 + 10 - 12, 6 + 11 - 18, 12 + 10 - 22, 20 + 6 - 26,
                30 + 2 - 30, 42 + 0 - 32);
        slacks("1 2 3 4 5 6 0 7", 0 + 6 - 7, 2 + 9 - 13, 6 + 9 - 18, 12 + 6 - 22, 20 + 3 - 25,
                30 + 1 - 27, 42 + 0 - 28, 56 + 0 - 28);
        slacks("0 0 0 0 0 0 0 0", 0, 2, 6, 12, 20, 30, 42, 56);
    }

    private static void slackOfTheGraph() {
        SwitchGraphs x = Texts.made(2, 0, "0-1", "0-0x9");
        Check.is("not of the target", x.slack(1), 0);
        x.addEdge(0, 0);
        Check.is("as it is now", x.slack(1), 0 + 1 - 3);
        Check.is("with loops counted twice", x.slack(2), 2 - 4);
    }

    private static void firstAndLastSlack() {
        SwitchGraphs one = new SwitchGraphs();
        Check.is("of one vertex", one.slack(1), 0);
        Check.throwing("0", Texts.INDEX, () -> one.slack(0));
        Check.throwing("2 of one vertex", Texts.INDEX, () -> one.slack(2));
        SwitchGraphs most = Texts.of("vertices 8;edge 0 7;");
        Check.is("the first of 8", most.slack(1), 0);
        Check.is("the last of 8", most.slack(8), 56 - 2);
        Check.throwing("0 of 8", Texts.INDEX, () -> most.slack(0));
        Check.throwing("9 of 8", Texts.INDEX, () -> most.slack(9));
    }

    private static void slackOutOfRange() {
        for (int n = 1; n <= 8; n++) {
            Refused.outside("k", Texts.INDEX, "vertices " + n + ";", 1, n, (x, k) -> x.slack(k));
        }
    }

    // ---- promise 24

    private static void promise24() {
        Sentence.test("Promise 24, GRAPHS",
                "It is possible if the sum is even and no degree is greater than the sum of the"
                        + " others.",
                SequenceBoundaries::possibleWithoutLoops);
        Sentence.test("Promise 24, GRAPHS",
                "The mode 2 is possible if the sum is even and no slack is less than 0.",
                SequenceBoundaries::possibleSimply);
        Sentence.test("Promise 24",
                "Tells whether the degrees of the graph can be realised in a mode.",
                SequenceBoundaries::possibleAsRealised);
        Sentence.test("Promise 24", "- `mode`: 0 to 2", SequenceBoundaries::modesOfIsPossible);
        Sentence.test("Promise 24", "Throws `IllegalArgumentException` if mode is out of range",
                () -> Refused.outside("mode", Texts.ARGUMENT, "degrees 3 3;", 0, 2,
                        (x, mode) -> x.isPossible(mode)));
    }

    private static void possible(String degrees, int mode, boolean due) {
        SwitchGraphs x = Texts.of("degrees " + degrees + ";");
        Check.is(degrees + " in the mode 0", x.isPossible(0), true);
        Check.is(degrees + " in the mode " + mode, x.isPossible(mode), due);
    }

    private static void possibleWithoutLoops() {
        possible("0", 1, true);
        possible("2", 1, false);
        possible("0 0", 1, true);
        possible("0 2", 1, false);
        possible("1 1", 1, true);
        possible("2 2", 1, true);
        possible("3 1", 1, false);
        possible("16 16", 1, true);
        possible("17 15", 1, false);
        possible("15 17", 1, false);
        possible("2 1 1", 1, true);
        possible("1 1 2", 1, true);
        possible("3 1 1 1", 1, true);
        possible("4 1 1 0", 1, false);
        possible("1 1 0 4", 1, false);
        possible("1 1 1 1 1 1 1 7", 1, true);
        possible("1 1 1 1 1 1 0 8", 1, false);
        possible("2 2 2 2 2 2 2 14", 1, true);
        possible("2 2 2 2 2 2 1 15", 1, false);
    }

    private static void possibleSimply() {
        possible("0", 2, true);
        possible("2", 2, false);
        possible("1 1", 2, true);
        // The first slack is -1.
        possible("2 2", 2, false);
        // All slacks are 0.
        possible("3 3 3 3", 2, true);
        // Slacks 0 and -1: the second one is the first that is less than 0.
        possible("3 3 3 1", 2, false);
        // Slacks 0, -1, -2, 0, 6.
        possible("4 4 3 2 1", 2, false);
        possible("4 3 3 2 2", 2, true);
        // Only the third of the slacks is less than 0: 6 + 2 + 2 + 0 - 12 is -2.
        possible("4 4 4 2 2 0", 2, false);
        possible("4 4 2 2 2 0", 2, true);
        // One slack alone is -1, and all the others are at least 0: the first, second, third one.
        possible("2 2 2 4", 2, false);
        possible("5 1 3 5 3 3", 2, false);
        possible("2 4 4 4 6 6 6", 2, false);
        possible("7 1 1 1 1 1 1 1", 2, true);
        possible("1 1 1 1 1 1 1 7", 2, true);
        possible("8 1 1 1 1 1 1 0", 2, false);
        possible("5 5 5 5 5 5 1 1", 2, true);
        possible("4 4 4 4 4 4 4 4", 2, true);
    }

    private static void possibleAsRealised() {
        String[] degrees = {"0", "2", "2 2", "3 1", "3 1 1 1", "4 1 1", "3 3 3 1", "3 3 3 3"};
        for (String one : degrees) {
            for (int mode = 0; mode <= 2; mode++) {
                int tried = mode;
                SwitchGraphs x = Texts.of("degrees " + one + ";");
                if (x.isPossible(mode)) {
                    Check.passing(one + " in the mode " + mode, () -> x.realise(tried));
                } else {
                    Check.throwing(one + " in the mode " + mode, Texts.STATE,
                            () -> x.realise(tried));
                }
            }
        }
        SwitchGraphs x = Texts.made(4, 0, "0-0", "0-1 2-3");
        Check.is("not of the target", x.isPossible(1), false);
        x.exchange();
        Check.is("of what was the target", x.isPossible(2), true);
        Check.is("whatever the mode", Texts.made(1, 2, "0-0", "").isPossible(0), true);
    }

    private static void modesOfIsPossible() {
        SwitchGraphs x = Texts.of("degrees 2 2;");
        Check.throwing("-1", Texts.ARGUMENT, () -> x.isPossible(-1));
        Check.is("0", x.isPossible(0), true);
        Check.is("1", x.isPossible(1), true);
        Check.is("2", x.isPossible(2), false);
        Check.throwing("3", Texts.ARGUMENT, () -> x.isPossible(3));
    }

    // ---- promise 25

    private static void promise25() {
        Sentence.test("Promise 25",
                "Returns the mean degree of the graph: twice the number of edges, divided by the"
                        + " number of vertices, both converted to double.",
                SequenceBoundaries::meanDegrees);
    }

    private static void meanDegrees() {
        Check.is("no edges", new SwitchGraphs().meanDegree(), 0.0);
        Check.is("no edges of 8", of(8, "").meanDegree(), 0.0);
        Check.is("a loop of one", of(1, "0-0").meanDegree(), 2.0);
        Check.is("an edge of two", of(2, "0-1").meanDegree(), 1.0);
        Check.is("an edge of three", of(3, "0-1").meanDegree(), 2.0 / 3.0);
        Check.is("an edge of 7", of(7, "0-1").meanDegree(), 2.0 / 7.0);
        Check.is("an edge of 8", of(8, "0-1").meanDegree(), 0.25);
        Check.is("15 of 7", of(7, "0-1x15").meanDegree(), 30.0 / 7.0);
        Check.is("16 of 7", of(7, "0-1x16").meanDegree(), 32.0 / 7.0);
        Check.is("16 of one", of(1, "0-0x16").meanDegree(), 32.0);
        Check.is("none of the target", Texts.made(2, 0, "", "0-1").meanDegree(), 0.0);
    }
}
