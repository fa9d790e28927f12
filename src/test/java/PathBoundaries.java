/** Promises 31 to 35, at their boundaries. */
final class PathBoundaries {
    private static final String UNLIKE = Texts.text(3, 0, "0-1", "0-2");
    private static final String LIKE = Texts.text(3, 0, "0-1", "0-1");
    private static final String ONE_STEP = Texts.text(4, 2, "0-1 2-3", "0-2 1-3");
    /**
     * A path of 15 switches. None is longer: each switch lessens the difference, which is at most
     * 16, and the last one does so by two.
     */
    static final String LONGEST = Texts.text(8, 0,
            "0-1x2 0-2x3 0-4x2 0-6x2 1-7 3-3x2 4-6 5-5 6-7 7-7",
            "0-0x2 0-3 0-7x4 1-2 1-3 1-6 2-6x2 3-4 3-6 4-5x2");

    private PathBoundaries() {
    }

    static void run() {
        promises31And32();
        theWayOfThePath();
        promise33();
        promise34();
        promise35();
    }

    private static void paths(int vertices, String graph, String target, String due) {
        for (int mode = 0; mode <= 2; mode++) {
            SwitchGraphs x = Texts.made(vertices, mode, graph, target);
            String what = "from " + graph + " to " + target + " in the mode " + mode;
            Check.is(what, Texts.path(x), due);
            Check.is("steps " + what, x.pathLength(), (due.length() + 1) / 5);
        }
    }

    // ---- promises 31 and 32

    private static void promises31And32() {
        Sentence.test("Promise 31",
                "Returns whether the graph and the target have the same degrees.",
                PathBoundaries::sameDegrees);
        Sentence.test("Promise 32, PATHS",
                "The difference of the graph and the target is the number of edges of the graph"
                        + " that the target does not have: the sum of what the graph has more, over"
                        + " all pairs of vertices and all loops.",
                PathBoundaries::whatTheGraphHasMore);
        Sentence.test("Promise 32", "Returns the difference of the graph and the target.",
                PathBoundaries::leastAndGreatestDifference);
    }

    private static void alike(int vertices, String graph, String target, boolean due) {
        SwitchGraphs x = Texts.made(vertices, 0, graph, target);
        Check.is(graph + " and " + target, x.isAlike(), due);
        x.exchange();
        Check.is(target + " and " + graph, x.isAlike(), due);
    }

    private static void sameDegrees() {
        Check.is("new", new SwitchGraphs().isAlike(), true);
        alike(8, "", "", true);
        alike(8, "0-0", "", false);
        alike(8, "7-7", "", false);
        alike(2, "0-1", "0-1", true);
        alike(2, "0-1x2", "0-1", false);
        alike(2, "0-1x2", "0-0 1-1", true);
        alike(2, "0-1x2", "0-0", false);
        alike(2, "0-1x2", "0-0x2", false);
        // The last two, or the first two, differ by one.
        alike(8, "0-6", "0-7", false);
        alike(8, "0-7", "1-7", false);
        // The same degrees in another order.
        alike(3, "0-1 0-2", "0-1 1-2", false);
        alike(1, "0-0x16", "0-0x16", true);
        alike(1, "0-0x16", "0-0x15", false);
        Check.is("a path of 15 steps", Texts.of(LONGEST).isAlike(), true);
    }

    private static void whatTheGraphHasMore() {
        Check.is("the same", Texts.of(LIKE).difference(), 0);
        Check.is("one edge more", Texts.made(2, 0, "0-1x2", "0-1").difference(), 1);
        Check.is("one edge less", Texts.made(2, 0, "0-1", "0-1x2").difference(), 0);
        Check.is("one loop more", Texts.made(8, 0, "7-7x2", "7-7").difference(), 1);
        Check.is("one loop less", Texts.made(8, 0, "7-7", "7-7x2").difference(), 0);
        Check.is("an edge elsewhere", Texts.of(UNLIKE).difference(), 1);
        Check.is("more here, less there",
                Texts.made(3, 0, "0-1x3 0-2", "0-1 0-2x5 1-1").difference(), 2);
        Check.is("pairs count once", Texts.made(8, 0, "0-7x3 6-7x2", "0-7 6-7").difference(), 3);
    }

    private static void leastAndGreatestDifference() {
        Check.is("new", new SwitchGraphs().difference(), 0);
        Check.is("16 of 16", Texts.made(2, 0, "0-1x16", "").difference(), 16);
        Check.is("16 of 16, the target with 16", Texts.made(2, 0, "0-1x16", "0-0x16").difference(),
                16);
        Check.is("15 of 16", Texts.made(2, 0, "0-1x16", "0-1").difference(), 15);
        Check.is("0 of 0 beside 16", Texts.made(2, 0, "", "0-1x16").difference(), 0);
        Check.is("a path of 15 steps", Texts.of(LONGEST).difference(), 16);
        SwitchGraphs x = Texts.of(ONE_STEP);
        Check.is("one step before", x.difference(), 2);
        x.follow(1);
        Check.is("behind it", x.difference(), 0);
    }

    // ---- the way of the path

    private static void theWayOfThePath() {
        Sentence.test("Promise 34, PATHS",
                "as long as they are unlike, let u and v (u not greater than v) be the first two"
                        + " vertices, in the order of u and then v, between which the target has"
                        + " more edges (loops for u = v) than the graph.",
                PathBoundaries::firstTwoVertices);
        Sentence.test("Promise 34, PATHS",
                "Let x be the smallest vertex so that the graph has more edges between u and x than"
                        + " the target, and y the smallest vertex so that it has more edges between"
                        + " v and y than the target (if u is v and y would be x, it must be at"
                        + " least two more, or y is the next such vertex).",
                PathBoundaries::smallestOtherEnds);
        Sentence.test("Promise 34, PATHS",
                "Then the switch of u, x, v, y is the next one, in the mode 0.",
                PathBoundaries::nextInTheMode0);
    }

    private static void firstTwoVertices() {
        paths(1, "", "", "");
        paths(2, "0-1x3", "0-1x3", "");
        // Loops of the first vertex, an edge with it, and loops of the last one.
        paths(2, "0-1x2", "0-0 1-1", "0101");
        paths(4, "0-1 2-3", "0-2 1-3", "0123");
        paths(8, "6-7x2", "6-6 7-7", "6767");
        paths(8, "4-5 6-7", "4-7 5-6", "4576");
        // Two pairs are missing: the one of the smaller u, then the one of the smaller v.
        paths(8, "0-1 2-3 4-5 6-7", "0-2 1-3 4-6 5-7", "0123 4567");
        paths(4, "0-0 1-1 2-3", "0-1 0-2 1-3", "0011 0123");
        // More edges, or not: the target has one more between 0 and 1, as many between 0 and 2.
        paths(4, "0-0 0-2 1-1", "0-1x2 0-2", "0011");
    }

    private static void smallestOtherEnds() {
        // Two more edges to 1 than the target has, one more, three more.
        paths(3, "0-1x2", "0-0 1-1", "0101");
        paths(3, "0-1 0-2", "0-0 1-2", "0102");
        paths(3, "0-1x3 0-2", "0-0x2 1-1 1-2", "0101 0102");
        // One more of two, and two more of three.
        paths(3, "0-1x2 0-2", "0-0 0-1 1-2", "0102");
        paths(3, "0-1x3 0-2", "0-0 0-1 0-2 1-1", "0101");
        // One more to 1; when that is gone, two more to 2.
        paths(3, "0-1 0-2x3 1-2", "0-0x2 1-2x2 2-2", "0102 0202");
        // Loops at u, and at v.
        paths(2, "0-0 1-1", "0-1x2", "0011");
        paths(3, "0-0 1-2", "0-1 0-2", "0012");
        paths(3, "0-2 1-1", "0-1 1-2", "0211");
        // The smallest of several x and of several y.
        paths(6, "0-2 0-3 1-4 1-5", "0-1x2 2-4 3-5", "0214 0315");
    }

    private static void nextInTheMode0() {
        // The first switch adds a loop at 1; the second one makes two edges between 1 and 3.
        paths(4, "0-1 1-2 3-3", "0-2 1-3x2", "0121 1133");
        SwitchGraphs x = Texts.of(LONGEST);
        Check.is("the longest path", x.pathLength(), 15);
        for (int k = 0; k < 15; k++) {
            SwitchGraphs next = Texts.of(LONGEST);
            next.follow(k);
            next.setMode(2);
            for (int what = 0; what < 4; what++) {
                Check.is("switch " + k, next.path(0, what), x.path(k, what));
            }
            SwitchGraphs behind = Texts.of(LONGEST);
            behind.follow(k);
            behind.switchEdges(x.path(k, 0), x.path(k, 1), x.path(k, 2), x.path(k, 3));
            next.follow(1);
            Check.is("graph behind switch " + k, Texts.graph(next), Texts.graph(behind));
        }
    }

    // ---- promise 33

    private static void promise33() {
        Sentence.test("Promise 33, ERRORS AND EDITS",
                "Methods that tell about paths or distances throw IllegalStateException if the"
                        + " degrees of the graph and the target are not the same.",
                PathBoundaries::pathsOfOtherDegrees);
        Sentence.test("Promise 33, PATHS",
                "If the graph and the target have the same degrees, the path leads from the graph"
                        + " to the target:",
                PathBoundaries::pathsLeadToTheTarget);
        Sentence.test("Promise 33", "Returns the number of switches of the path.",
                PathBoundaries::shortestAndLongestPath);
        Sentence.test("Promise 33",
                "Throws `IllegalStateException` if the degrees are not the same",
                () -> unlikeAreRefused("pathLength", x -> x.pathLength()));
    }

    /** Degrees that differ at the first vertices or at the last ones, or in number. */
    private static void unlikeAreRefused(String what, Refused.Call call) {
        String[] unlike = {UNLIKE, Texts.text(2, 0, "0-1x2", "0-1"), Texts.text(8, 1, "7-7", ""),
            Texts.text(8, 0, "", "0-0"), Texts.text(8, 2, "0-6", "0-7"),
            Texts.text(3, 0, "0-1 0-2", "0-1 1-2"), Texts.text(1, 0, "0-0x16", "0-0x15")};
        for (String text : unlike) {
            Refused.call(what + " in " + text, Texts.STATE, text, call);
        }
    }

    private static void pathsOfOtherDegrees() {
        SwitchGraphs x = Texts.of(ONE_STEP);
        Check.passing("pathLength", () -> x.pathLength());
        Check.passing("path", () -> x.path(0, 0));
        Check.passing("distance", () -> x.distance());
        x.addEdge(3, 3);
        Check.throwing("pathLength", Texts.STATE, () -> x.pathLength());
        Check.throwing("path", Texts.STATE, () -> x.path(0, 0));
        Check.throwing("distance", Texts.STATE, () -> x.distance());
        Check.throwing("follow", Texts.STATE, () -> x.follow(0));
        Check.passing("difference tells about neither", () -> x.difference());
        Check.passing("nor does nearest", () -> x.nearest());
        x.undo();
        Check.passing("follow", () -> x.follow(1));
        x.removeEdge(0, 2);
        Check.throwing("pathLength again", Texts.STATE, () -> x.pathLength());
        x.addEdge(0, 2);
        Check.passing("pathLength again", () -> x.pathLength());
    }

    private static void pathsLeadToTheTarget() {
        String[] texts = {LIKE, ONE_STEP, LONGEST, Texts.text(2, 0, "0-0x8 1-1x8", "0-1x16"),
            Texts.text(2, 0, "0-1x16", "0-0x8 1-1x8")};
        for (String text : texts) {
            SwitchGraphs x = Texts.of(text);
            int steps = x.pathLength();
            x.follow(Math.max(0, steps - 1));
            Check.is("one step before the target: " + text, x.difference(), steps > 0 ? 2 : 0);
            x.follow(1);
            Check.is("at the target: " + text, Texts.graph(x), Texts.target(x));
            Check.is("no step is left: " + text, x.pathLength(), 0);
        }
    }

    private static void shortestAndLongestPath() {
        Check.is("new", new SwitchGraphs().pathLength(), 0);
        Check.is("like", Texts.of(LIKE).pathLength(), 0);
        Check.is("one", Texts.of(ONE_STEP).pathLength(), 1);
        Check.is("two", Texts.made(6, 0, "0-1 2-3 4-5", "0-3 1-4 2-5").pathLength(), 2);
        Check.is("8", Texts.made(2, 0, "0-0x8 1-1x8", "0-1x16").pathLength(), 8);
        Check.is("15", Texts.of(LONGEST).pathLength(), 15);
        SwitchGraphs x = Texts.of(LONGEST);
        x.follow(1);
        Check.is("14", x.pathLength(), 14);
    }

    // ---- promise 34

    private static void promise34() {
        Sentence.test("Promise 34", "Returns a vertex of a switch of the path.",
                PathBoundaries::verticesOfThePath);
        Sentence.test("Promise 34", "- `k`: 0 for the first one",
                PathBoundaries::firstAndLastOfThePath);
        Sentence.test("Promise 34", "- `what`: 0 to 3 for a to d", PathBoundaries::aToD);
        Sentence.test("Promise 34",
                "Throws `IllegalStateException` if the degrees are not the same (this is checked"
                        + " first here)",
                PathBoundaries::degreesComeFirst);
        Sentence.test("Promise 34",
                "Throws `IndexOutOfBoundsException` if k is less than 0 or not less than"
                        + " pathLength()",
                PathBoundaries::pathOutOfRange);
        Sentence.test("Promise 34", "Throws `IllegalArgumentException` if what is out of range",
                PathBoundaries::whatOutOfRange);
    }

    private static void verticesOfThePath() {
        Check.is("one", Texts.path(Texts.of(ONE_STEP)), "0123");
        Check.is("of the last vertices", Texts.path(Texts.made(8, 0, "4-7 5-6", "4-6 5-7")),
                "4765");
        SwitchGraphs x = Texts.made(6, 2, "0-1 2-3 4-5", "0-3 1-4 2-5");
        Check.is("two", Texts.path(x), "0132 1245");
        x.follow(1);
        Check.is("the other one", Texts.path(x), "1245");
        x.exchange();
        Check.is("back", Texts.path(x), "1425");
    }

    private static void firstAndLastOfThePath() {
        SwitchGraphs x = Texts.made(6, 0, "0-1 2-3 4-5", "0-3 1-4 2-5");
        Check.throwing("before the first", Texts.INDEX, () -> x.path(-1, 0));
        Check.is("the first", x.path(0, 2), 3);
        Check.is("the last", x.path(1, 2), 4);
        Check.throwing("behind the last", Texts.INDEX, () -> x.path(2, 0));
    }

    private static void aToD() {
        SwitchGraphs x = Texts.made(6, 0, "0-1 2-3 4-5", "0-3 1-4 2-5");
        Check.throwing("-1", Texts.ARGUMENT, () -> x.path(0, -1));
        int[] due = {0, 1, 3, 2};
        for (int what = 0; what < 4; what++) {
            Check.is("vertex " + what, x.path(0, what), due[what]);
        }
        Check.throwing("4", Texts.ARGUMENT, () -> x.path(0, 4));
    }

    private static void degreesComeFirst() {
        unlikeAreRefused("path", x -> x.path(0, 0));
        unlikeAreRefused("path of no index", x -> x.path(-1, 0));
        unlikeAreRefused("path of no vertex of a switch", x -> x.path(0, 4));
        unlikeAreRefused("path of neither", x -> x.path(99, 99));
        Check.is("the same degrees", Texts.of(ONE_STEP).path(0, 0), 0);
    }

    private static void pathOutOfRange() {
        Refused.outside("of one", Texts.INDEX, ONE_STEP, 0, 0, (x, k) -> x.path(k, 0));
        Refused.outside("of two", Texts.INDEX,
                Texts.text(6, 0, "0-1 2-3 4-5", "0-3 1-4 2-5"), 0, 1, (x, k) -> x.path(k, 3));
        Refused.outside("of 15", Texts.INDEX, LONGEST, 0, 14, (x, k) -> x.path(k, 3));
        Refused.call("of none", Texts.INDEX, LIKE, x -> x.path(0, 0));
        Refused.call("of a new one", Texts.INDEX, "", x -> x.path(0, 0));
        Refused.call("before what is looked at", Texts.INDEX, ONE_STEP, x -> x.path(1, 4));
        Refused.call("below, before what is looked at", Texts.INDEX, ONE_STEP,
                x -> x.path(-1, -1));
    }

    private static void whatOutOfRange() {
        Refused.outside("what", Texts.ARGUMENT, ONE_STEP, 0, 3, (x, what) -> x.path(0, what));
        Refused.outside("what of the last", Texts.ARGUMENT,
                Texts.text(6, 0, "0-1 2-3 4-5", "0-3 1-4 2-5"), 0, 3,
                (x, what) -> x.path(1, what));
    }

    // ---- promise 35

    private static void promise35() {
        Sentence.test("Promise 35, PATHS",
                "The distance is the smallest number of switches in the mode 0 that lead from the"
                        + " graph to the target; it is told as 3 if it is 3 or more.",
                PathBoundaries::smallestNumberOfSwitches);
        Sentence.test("Promise 35", "Returns the distance, 0 to 3.",
                PathBoundaries::distances0To3);
        Sentence.test("Promise 35",
                "Throws `IllegalStateException` if the degrees are not the same",
                () -> unlikeAreRefused("distance", x -> x.distance()));
    }

    private static void distance(int vertices, String graph, String target, int due) {
        for (int mode = 0; mode <= 2; mode++) {
            SwitchGraphs x = Texts.made(vertices, mode, graph, target);
            String what = graph + " and " + target + " in the mode " + mode;
            Check.is(what, x.distance(), due);
            x.exchange();
            Check.is("back: " + what, x.distance(), due);
        }
    }

    private static void smallestNumberOfSwitches() {
        distance(2, "0-1x3", "0-1x3", 0);
        distance(4, "0-1 2-3", "0-2 1-3", 1);
        distance(2, "0-0 1-1", "0-1x2", 1);
        // Each switch takes two loops: four of them are two switches, and so on.
        distance(2, "0-0x2 1-1x2", "0-1x4", 2);
        distance(2, "0-0x3 1-1x3", "0-1x6", 3);
        distance(2, "0-0x4 1-1x4", "0-1x8", 3);
        distance(2, "0-0x8 1-1x8", "0-1x16", 3);
        // Three edges differ.
        distance(6, "0-1 2-3 4-5", "0-3 1-4 2-5", 2);
        distance(3, "0-0 1-1 2-2", "0-1 0-2 1-2", 2);
        // Four differ: in two pairs of two, and in one ring.
        distance(8, "0-1 2-3 4-5 6-7", "0-2 1-3 4-6 5-7", 2);
        distance(8, "0-1 2-3 4-5 6-7", "0-7 1-2 3-4 5-6", 3);
        // The path takes three switches, but two are enough.
        distance(7, "0-2 0-3 1-4 5-6", "0-1 0-5 2-6 3-4", 2);
        Check.is("a longer path",
                Texts.made(7, 0, "0-2 0-3 1-4 5-6", "0-1 0-5 2-6 3-4").pathLength(), 3);
    }

    private static void distances0To3() {
        Check.is("new", new SwitchGraphs().distance(), 0);
        Check.is("like", Texts.of(LIKE).distance(), 0);
        Check.is("the longest path", Texts.of(LONGEST).distance(), 3);
        SwitchGraphs x = Texts.made(2, 2, "0-1x8", "0-0x4 1-1x4");
        int[] due = {3, 3, 2, 1, 0};
        for (int steps = 0; steps < 5; steps++) {
            Check.is("behind " + steps + " steps", x.distance(), due[steps]);
            x.follow(1);
        }
    }
}
