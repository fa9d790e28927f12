import java.util.HashSet;
import java.util.Set;

/** Promises 26 to 30, at their boundaries. */
final class SwitchBoundaries {
    private static final String PAIRS = "0-1 2-3";
    /** A graph with loops, several edges and single ones; and one with as many as there can be. */
    private static final String MIXED = "0-0x2 0-1x2 1-2 1-3 2-2 3-3";
    private static final String LARGE =
            "0-0 0-1 0-2 0-7 1-1 1-2 1-3 1-6 2-2 2-3 2-4 2-5 2-6 3-5 3-7 4-6";

    private SwitchBoundaries() {
    }

    static void run() {
        switchesOfFour();
        reasons();
        promise26();
        promises27And28();
        promise29();
        promise30();
    }

    private static SwitchGraphs of(int vertices, int mode, String graph) {
        return Texts.made(vertices, mode, graph, "");
    }

    private static String behind(int vertices, String graph, int a, int b, int c, int d) {
        SwitchGraphs x = of(vertices, 0, graph);
        x.switchEdges(a, b, c, d);
        return Texts.graph(x);
    }

    /** The reasons in the modes 0, 1 and 2, of the switch and of the three that do the same. */
    private static void reason(int vertices, String graph, int a, int b, int c, int d,
            int... due) {
        for (int mode = 0; mode <= 2; mode++) {
            SwitchGraphs x = of(vertices, mode, graph);
            String what = "" + a + b + c + d + " in the mode " + mode + " of " + graph;
            int one = due[due.length > 1 ? mode : 0];
            Check.is(what, x.reason(a, b, c, d), one);
            Check.is("b, a, d, c of " + what, x.reason(b, a, d, c), one);
        }
    }

    // ---- the switch

    private static void switchesOfFour() {
        Sentence.test("Promise 38, SWITCHES",
                "The switch of the vertices a, b, c and d removes an edge between a and b and"
                        + " another edge between c and d, and adds one between a and c and one"
                        + " between b and d.",
                SwitchBoundaries::twoForTwo);
        Sentence.test("Promise 27, SWITCHES",
                "The switches of a, b, c, d; of b, a, d, c; of c, d, a, b; and of d, c, b, a do the"
                        + " same.",
                SwitchBoundaries::fourDoTheSame);
        Sentence.test("Promise 27, SWITCHES",
                "The list of switches has all possible ones, in the order of a, then b, c and d,"
                        + " but of those four that do the same only the first one.",
                SwitchBoundaries::listOfAll);
    }

    private static void twoForTwo() {
        Check.is("a, c and b, d", behind(4, PAIRS, 0, 1, 2, 3), "0-2 1-3");
        Check.is("a, d and b, c", behind(4, PAIRS, 0, 1, 3, 2), "0-3 1-2");
        Check.is("one of several", behind(4, "0-1x3 0-2 2-3x2", 0, 1, 2, 3),
                "0-1x2 0-2x2 1-3 2-3");
        Check.is("both of two", behind(2, "0-1x2", 0, 1, 0, 1), "0-0 1-1");
        Check.is("two of three", behind(2, "0-1x3", 0, 1, 0, 1), "0-0 0-1 1-1");
        Check.is("two loops", behind(2, "0-0 1-1", 0, 0, 1, 1), "0-1x2");
        Check.is("a loop and an edge", behind(3, "0-0 1-2", 0, 0, 1, 2), "0-1 0-2");
        Check.is("two edges at one vertex", behind(3, "0-1 0-2", 0, 1, 0, 2), "0-0 1-2");
        Check.is("with 16 edges", behind(8, "0-1x15 6-7", 0, 1, 6, 7), "0-1x14 0-6 1-7");
    }

    private static void fourDoTheSame() {
        String[] graphs = {PAIRS, MIXED, "0-0x3 1-1x2 2-3x2"};
        for (String graph : graphs) {
            for (int mode = 0; mode <= 2; mode++) {
                for (int k = 0; k < 256; k++) {
                    sameOfFour(graph, mode, k >> 6, k >> 4 & 3, k >> 2 & 3, k & 3);
                }
            }
        }
    }

    private static void sameOfFour(String graph, int mode, int a, int b, int c, int d) {
        SwitchGraphs x = of(4, mode, graph);
        String what = "" + a + b + c + d + " in the mode " + mode + " of " + graph;
        boolean isPossible = x.reason(a, b, c, d) == 0;
        Check.is("b, a, d, c: " + what, x.reason(b, a, d, c) == 0, isPossible);
        Check.is("c, d, a, b: " + what, x.reason(c, d, a, b) == 0, isPossible);
        Check.is("d, c, b, a: " + what, x.reason(d, c, b, a) == 0, isPossible);
        if (isPossible) {
            String due = behind(4, graph, a, b, c, d);
            Check.is("b, a, d, c does " + what, behind(4, graph, b, a, d, c), due);
            Check.is("c, d, a, b does " + what, behind(4, graph, c, d, a, b), due);
            Check.is("d, c, b, a does " + what, behind(4, graph, d, c, b, a), due);
        }
    }

    private static void listOfAll() {
        for (int mode = 0; mode <= 2; mode++) {
            list(1, mode, "");
            list(1, mode, "0-0x16");
            list(2, mode, "0-1x2");
            list(2, mode, "0-0x8 1-1x8");
            list(3, mode, "0-0 0-1 0-2 1-1 1-2 2-2");
            list(4, mode, PAIRS);
            list(4, mode, MIXED);
            list(8, mode, LARGE);
            list(8, mode, "0-7 1-6 2-5 3-4 5-6 6-7");
        }
    }

    /** The list is held against what reason() tells, in new objects for each a and b. */
    private static void list(int n, int mode, String graph) {
        Set<String> done = new HashSet<>();
        StringBuilder due = new StringBuilder();
        int many = 0;
        for (int a = 0; a < n; a++) {
            for (int b = 0; b < n; b++) {
                SwitchGraphs x = of(n, mode, graph);
                for (int k = 0; k < n * n; k++) {
                    int c = k / n;
                    int d = k % n;
                    if (x.reason(a, b, c, d) == 0 && !done.contains("" + a + b + c + d)) {
                        due.append(many > 0 ? " " : "").append(a).append(b).append(c).append(d);
                        many++;
                        done.add("" + b + a + d + c);
                        done.add("" + c + d + a + b);
                        done.add("" + d + c + b + a);
                    }
                }
            }
        }
        Check.is("mode " + mode + " of " + graph, listed(n, mode, graph, many), due.toString());
    }

    private static String listed(int n, int mode, String graph, int many) {
        StringBuilder text = new StringBuilder();
        for (int k = 0; k < many; k++) {
            SwitchGraphs x = of(n, mode, graph);
            text.append(k > 0 ? " " : "");
            for (int what = 0; what < 4; what++) {
                text.append(x.switchAt(k, what));
            }
        }
        SwitchGraphs x = of(n, mode, graph);
        Check.is("length of the list", x.switches(), many);
        Check.throwing("none behind the last one", Texts.INDEX, () -> x.switchAt(many, 0));
        return text.toString();
    }

    // ---- reasons

    private static void reasons() {
        Sentence.test("Promise 26, SWITCHES", "It is refused for the first of these reasons:",
                SwitchBoundaries::firstOfTwoReasons);
        Sentence.test("Promise 26, SWITCHES", "1 there is no edge between a and b;",
                SwitchBoundaries::reason1);
        Sentence.test("Promise 26, SWITCHES",
                "2 there is no edge between c and d besides that one;", SwitchBoundaries::reason2);
        Sentence.test("Promise 26, SWITCHES",
                "3 a is d, or b is c (the graph would not change);", SwitchBoundaries::reason3);
        Sentence.test("Promise 26, SWITCHES",
                "4 the mode is 1 or 2, and a is c, or b is d (a loop would be added);",
                SwitchBoundaries::reason4);
        Sentence.test("Promise 26, SWITCHES",
                "5 the mode is 2, and one of the edges to be added would be there already behind"
                        + " the removal, or both would be between the same vertices.",
                SwitchBoundaries::reason5);
        Sentence.test("Promise 26, SWITCHES",
                "Otherwise the reason is 0, and the switch is possible.",
                SwitchBoundaries::reason0);
    }

    private static void firstOfTwoReasons() {
        // 1, with 2, 3, 4 and 5 each.
        reason(4, "", 0, 1, 2, 3, 1);
        reason(4, "0-2", 0, 1, 2, 0, 1);
        reason(4, "0-2", 0, 1, 0, 2, 1);
        reason(4, "0-2 2-3", 0, 1, 2, 3, 1);
        // 2, with 3, 4 and 5 each.
        reason(4, "0-1", 0, 1, 1, 0, 2);
        reason(4, "0-1", 0, 1, 2, 0, 2);
        reason(4, "0-1", 0, 1, 0, 1, 2);
        reason(4, "0-1", 0, 1, 0, 2, 2);
        reason(4, "0-1 0-2", 0, 1, 2, 3, 2);
        reason(4, "0-1 1-3", 0, 1, 2, 3, 2);
        // 3, with 4 and 5 each, and with both.
        reason(4, "0-0 0-1", 0, 1, 0, 0, 3);
        reason(4, "0-0 0-1", 0, 0, 0, 1, 3);
        reason(4, "0-1 0-2x2", 0, 1, 2, 0, 3);
        reason(4, "0-0x2 0-1", 0, 1, 0, 0, 3);
        // 4, with 5.
        reason(4, "0-1 0-2 1-2", 0, 1, 0, 2, 0, 4, 4);
        reason(4, "0-0 0-1 0-2", 0, 1, 0, 2, 0, 4, 4);
        reason(4, "0-2 1-2 2-2", 0, 2, 1, 2, 0, 4, 4);
    }

    private static void reason1() {
        reason(4, "2-3", 0, 1, 2, 3, 1);
        reason(4, "0-1 2-3", 0, 1, 2, 3, 0);
        reason(4, "0-1x2 2-3", 0, 1, 2, 3, 0);
        reason(4, "1-1 2-3", 0, 0, 2, 3, 1);
        reason(4, "0-0 2-3", 0, 0, 2, 3, 0);
        reason(8, "0-1", 6, 7, 0, 1, 1);
        reason(8, "0-1 6-7", 6, 7, 0, 1, 0);
        Check.is("an edge of the target is none",
                Texts.made(4, 0, "2-3", "0-1").reason(0, 1, 2, 3), 1);
    }

    private static void reason2() {
        reason(4, "0-1", 0, 1, 2, 3, 2);
        reason(4, "0-1x2", 0, 1, 2, 3, 2);
        reason(4, "0-1 2-3", 0, 1, 2, 3, 0);
        // The same edge: one is not enough, two are.
        reason(4, "0-1", 0, 1, 0, 1, 2);
        reason(4, "0-1x2", 0, 1, 0, 1, 0, 4, 4);
        reason(4, "0-1x3", 0, 1, 0, 1, 0, 4, 4);
        reason(4, "0-1", 0, 1, 1, 0, 2);
        reason(4, "0-1x2", 0, 1, 1, 0, 3);
        reason(4, "0-0", 0, 0, 0, 0, 2);
        reason(4, "0-0x2", 0, 0, 0, 0, 3);
        reason(8, "7-7", 7, 7, 7, 7, 2);
        reason(8, "7-7x2", 7, 7, 7, 7, 3);
        // Edges that share one vertex are not the same.
        reason(4, "0-1 0-2", 0, 1, 0, 2, 0, 4, 4);
        reason(4, "0-1 0-2", 0, 1, 2, 0, 3);
        reason(4, "0-0 0-1", 0, 0, 0, 1, 3);
        Check.is("an edge of the target is none",
                Texts.made(4, 0, "0-1", "2-3").reason(0, 1, 2, 3), 2);
    }

    private static void reason3() {
        reason(4, "0-1 0-2", 0, 1, 2, 0, 3);
        reason(4, "0-1 1-2", 0, 1, 1, 2, 3);
        reason(4, "0-1x2", 0, 1, 1, 0, 3);
        reason(4, "0-0x2", 0, 0, 0, 0, 3);
        reason(8, "6-7 5-7", 7, 6, 5, 7, 3);
        reason(8, "6-7 5-7", 6, 7, 7, 5, 3);
        // With the ends of the second edge turned the graph does change.
        reason(4, "0-1 0-2", 0, 1, 0, 2, 0, 4, 4);
        reason(4, "0-1 1-2", 0, 1, 2, 1, 0, 4, 4);
        reason(4, "0-1 2-3", 0, 1, 2, 3, 0);
    }

    private static void reason4() {
        // a is c alone, b is d alone, both, none.
        reason(4, "0-1 0-2", 0, 1, 0, 2, 0, 4, 4);
        reason(4, "0-2 1-2", 0, 2, 1, 2, 0, 4, 4);
        reason(4, "0-1x2", 0, 1, 0, 1, 0, 4, 4);
        reason(4, "0-1 2-3", 0, 1, 2, 3, 0, 0, 0);
        reason(8, "5-7 6-7", 7, 5, 7, 6, 0, 4, 4);
        reason(8, "5-7 6-7", 5, 7, 6, 7, 0, 4, 4);
        // Loops that are removed are no loops that are added.
        reason(4, "0-0 1-2", 0, 0, 1, 2, 0, 0, 0);
        SwitchGraphs x = of(4, 0, "0-1 0-2");
        Check.is("mode 0", x.reason(0, 1, 0, 2), 0);
        x.setMode(1);
        Check.is("mode 1", x.reason(0, 1, 0, 2), 4);
        x.setMode(2);
        Check.is("mode 2", x.reason(0, 1, 0, 2), 4);
        x.undo();
        x.undo();
        Check.is("mode 0 again", x.reason(0, 1, 0, 2), 0);
    }

    private static void reason5() {
        // One between a and c, one between b and d, both, none.
        reason(4, "0-1 0-2 2-3", 0, 1, 2, 3, 0, 0, 5);
        reason(4, "0-1 1-3 2-3", 0, 1, 2, 3, 0, 0, 5);
        reason(4, "0-1 0-2x2 1-3 2-3", 0, 1, 2, 3, 0, 0, 5);
        reason(4, "0-1 0-3 1-2 2-3", 0, 1, 2, 3, 0, 0, 0);
        // What is removed may be there more than once.
        reason(4, "0-1x2 2-3x3", 0, 1, 2, 3, 0, 0, 0);
        // Two loops would become two edges between the same vertices; a loop and an edge do not.
        reason(4, "0-0 1-1", 0, 0, 1, 1, 0, 0, 5);
        reason(4, "0-0x2 1-1x2", 1, 1, 0, 0, 0, 0, 5);
        reason(4, "0-0 1-2", 0, 0, 1, 2, 0, 0, 0);
        reason(4, "0-0 0-1 1-2", 0, 0, 1, 2, 0, 0, 5);
        reason(4, "0-0 0-2 1-2", 0, 0, 1, 2, 0, 0, 5);
        // Loops and edges elsewhere do not matter.
        reason(4, "0-0 0-1 1-1 2-3 3-3", 0, 1, 2, 3, 0, 0, 0);
        reason(8, "0-7 1-6 1-7", 0, 7, 1, 6, 0, 0, 0);
        reason(8, "0-7 1-6 6-7", 0, 7, 1, 6, 0, 0, 5);
    }

    private static void reason0() {
        reason(4, PAIRS, 0, 1, 2, 3, 0);
        reason(8, "0-7 3-4", 0, 7, 3, 4, 0);
        for (int mode = 0; mode <= 2; mode++) {
            for (int k = 0; k < 256; k++) {
                possibleOrRefused(mode, k >> 6, k >> 4 & 3, k >> 2 & 3, k & 3);
            }
        }
    }

    private static void possibleOrRefused(int mode, int a, int b, int c, int d) {
        SwitchGraphs x = of(4, mode, MIXED);
        String what = "" + a + b + c + d + " in the mode " + mode;
        if (x.reason(a, b, c, d) == 0) {
            Check.passing(what, () -> x.componentsBehind(a, b, c, d));
            Check.passing(what, () -> x.switchEdges(a, b, c, d));
        } else {
            Check.throwing(what, Texts.STATE, () -> x.componentsBehind(a, b, c, d));
            Check.throwing(what, Texts.STATE, () -> x.switchEdges(a, b, c, d));
        }
    }

    // ---- promise 26

    private static void promise26() {
        Sentence.test("Promise 26", "Returns the reason against a switch, by the present mode.",
                SwitchBoundaries::presentMode);
        Sentence.test("Promise 26", "Returns 1 to 5; 0 if it is possible.",
                SwitchBoundaries::leastAndGreatestReason);
        Sentence.test("Promise 26",
                "Throws `IndexOutOfBoundsException` if there is no such vertex",
                SwitchBoundaries::reasonOfNoVertex);
    }

    private static void presentMode() {
        SwitchGraphs x = of(4, 0, "0-1 0-2 2-3");
        Check.is("mode 0", x.reason(0, 1, 2, 3), 0);
        x.setMode(1);
        Check.is("mode 1", x.reason(0, 1, 2, 3), 0);
        x.setMode(2);
        Check.is("mode 2", x.reason(0, 1, 2, 3), 5);
        x.removeEdge(0, 2);
        Check.is("mode 2, without that edge", x.reason(0, 1, 2, 3), 0);
    }

    private static void leastAndGreatestReason() {
        SwitchGraphs x = of(5, 2, "0-1 0-2 2-3");
        Check.is("possible", x.reason(0, 1, 3, 2), 0);
        Check.is("1", x.reason(0, 4, 2, 3), 1);
        Check.is("2", x.reason(0, 1, 0, 1), 2);
        Check.is("3", x.reason(0, 1, 2, 0), 3);
        Check.is("4", x.reason(0, 1, 0, 2), 4);
        Check.is("5", x.reason(0, 1, 2, 3), 5);
    }

    private static void reasonOfNoVertex() {
        String text = Texts.text(8, 0, PAIRS, "");
        Refused.vertex("a", text, 7, (x, v) -> x.reason(v, 1, 2, 3));
        Refused.vertex("b", text, 7, (x, v) -> x.reason(0, v, 2, 3));
        Refused.vertex("c", text, 7, (x, v) -> x.reason(0, 1, v, 3));
        Refused.vertex("d", text, 7, (x, v) -> x.reason(0, 1, 2, v));
        Refused.vertex("a of four", Texts.text(4, 2, PAIRS, ""), 3, (x, v) -> x.reason(v, 0, 0, 0));
        Refused.vertex("d of one", "", 0, (x, v) -> x.reason(0, 0, 0, v));
    }

    // ---- promises 27 and 28

    private static void promises27And28() {
        Sentence.test("Promise 27", "Returns the number of switches in the list.",
                SwitchBoundaries::fewestAndMostSwitches);
        Sentence.test("Promise 28", "Returns a vertex of a switch of the list.",
                SwitchBoundaries::verticesOfSwitches);
        Sentence.test("Promise 28", "- `k`: 0 for the first one",
                SwitchBoundaries::firstAndLastSwitch);
        Sentence.test("Promise 28", "- `what`: 0 to 3 for a to d", SwitchBoundaries::aToD);
        Sentence.test("Promise 28",
                "Throws `IndexOutOfBoundsException` if there is no such switch",
                SwitchBoundaries::noSuchSwitch);
        Sentence.test("Promise 28", "Throws `IllegalArgumentException` if what is out of range",
                SwitchBoundaries::whatOutOfRange);
    }

    private static void many(int vertices, String graph, int... due) {
        for (int mode = 0; mode <= 2; mode++) {
            Check.is("mode " + mode + " of " + graph, of(vertices, mode, graph).switches(),
                    due[mode]);
        }
    }

    private static void fewestAndMostSwitches() {
        many(1, "", 0, 0, 0);
        many(8, "", 0, 0, 0);
        many(2, "0-1", 0, 0, 0);
        many(1, "0-0x16", 0, 0, 0);
        many(2, "0-1x2", 1, 0, 0);
        many(2, "0-1x16", 1, 0, 0);
        many(2, "0-0 1-1", 1, 1, 0);
        many(3, "0-1 0-2", 1, 0, 0);
        many(4, PAIRS, 2, 2, 2);
        // Each two of the four edges may change their ends in two ways.
        many(8, "0-1 2-3 4-5 6-7", 12, 12, 12);
        SwitchGraphs x = of(8, 1, "0-1 2-3 4-5 6-7");
        x.switchEdges(0, 1, 2, 3);
        Check.is("as many behind a switch", x.switches(), 12);
        x.removeEdge(6, 7);
        Check.is("less with three edges", x.switches(), 6);
    }

    private static void verticesOfSwitches() {
        Check.is("pairs", Texts.switches(of(4, 0, PAIRS)), "0123 0132");
        Check.is("at the last vertices", Texts.switches(of(8, 0, "4-5 6-7")), "4567 4576");
        Check.is("a loop", Texts.switches(of(8, 0, "5-6 7-7")), "5677");
        Check.is("a loop first", Texts.switches(of(3, 0, "0-0 1-2")), "0012");
        Check.is("two at one vertex", Texts.switches(of(8, 0, "5-7 6-7")), "5767");
    }

    private static void firstAndLastSwitch() {
        SwitchGraphs x = of(8, 0, "0-1 2-3 4-5 6-7");
        int[] first = {0, 1, 2, 3};
        int[] last = {4, 5, 7, 6};
        for (int what = 0; what < 4; what++) {
            Check.is("the first", x.switchAt(0, what), first[what]);
            Check.is("the last", x.switchAt(11, what), last[what]);
        }
        Check.throwing("before the first", Texts.INDEX, () -> x.switchAt(-1, 0));
        Check.throwing("behind the last", Texts.INDEX, () -> x.switchAt(12, 0));
    }

    private static void aToD() {
        SwitchGraphs x = of(4, 0, PAIRS);
        Check.throwing("-1", Texts.ARGUMENT, () -> x.switchAt(1, -1));
        Check.is("a", x.switchAt(1, 0), 0);
        Check.is("b", x.switchAt(1, 1), 1);
        Check.is("c", x.switchAt(1, 2), 3);
        Check.is("d", x.switchAt(1, 3), 2);
        Check.throwing("4", Texts.ARGUMENT, () -> x.switchAt(1, 4));
    }

    private static void noSuchSwitch() {
        Refused.outside("of 12", Texts.INDEX, Texts.text(8, 2, "0-1 2-3 4-5 6-7", ""), 0, 11,
                (x, k) -> x.switchAt(k, 3));
        Refused.outside("of one", Texts.INDEX, Texts.text(2, 0, "0-1x2", ""), 0, 0,
                (x, k) -> x.switchAt(k, 0));
        Refused.call("of none, the mode being 1", Texts.INDEX, Texts.text(2, 1, "0-1x2", ""),
                x -> x.switchAt(0, 0));
        Refused.call("of none", Texts.INDEX, "", x -> x.switchAt(0, 0));
        Refused.call("before what is looked at", Texts.INDEX, "", x -> x.switchAt(0, 4));
        Refused.call("below, before what is looked at", Texts.INDEX, "", x -> x.switchAt(-1, -1));
    }

    private static void whatOutOfRange() {
        Refused.outside("what", Texts.ARGUMENT, Texts.text(4, 1, PAIRS, ""), 0, 3,
                (x, what) -> x.switchAt(0, what));
        Refused.outside("what of the last", Texts.ARGUMENT, Texts.text(4, 1, PAIRS, ""), 0, 3,
                (x, what) -> x.switchAt(1, what));
    }

    // ---- promise 29

    private static void promise29() {
        Sentence.test("Promise 29",
                "Returns the number of components that the graph would have behind a switch.",
                SwitchBoundaries::componentsThen);
        Sentence.test("Promise 29",
                "Throws `IndexOutOfBoundsException` if there is no such vertex",
                SwitchBoundaries::componentsBehindOfNoVertex);
        Sentence.test("Promise 29",
                "Throws `IllegalStateException` if the switch is not possible",
                SwitchBoundaries::componentsBehindNoSwitch);
    }

    private static void componentsThen() {
        Check.is("one of one", of(2, 0, "0-1x3").componentsBehind(0, 1, 0, 1), 1);
        Check.is("two of one", of(2, 0, "0-1x2").componentsBehind(0, 1, 0, 1), 2);
        Check.is("one of two", of(2, 0, "0-0 1-1").componentsBehind(0, 0, 1, 1), 1);
        Check.is("two of two", of(4, 0, PAIRS).componentsBehind(0, 1, 2, 3), 2);
        Check.is("without edges they count", of(8, 0, PAIRS).componentsBehind(0, 1, 2, 3), 6);
        Check.is("one more", of(8, 0, "6-7x2").componentsBehind(6, 7, 6, 7), 8);
        Check.is("a square in two", of(4, 1, "0-1 0-3 1-2 2-3").componentsBehind(0, 1, 3, 2), 2);
        SwitchGraphs x = of(4, 1, "0-1 0-3 1-2 2-3");
        x.componentsBehind(0, 1, 3, 2);
        Check.is("the graph stays", Texts.graph(x), "0-1 0-3 1-2 2-3");
        Check.is("nor is it an edit", x.undo(), SwitchGraphs.NONE);
    }

    private static void componentsBehindOfNoVertex() {
        String text = Texts.text(8, 0, "0-0x2 1-1x2 2-2x2 3-3x2", "");
        int[][] outside = {{-1, 0, 1, 1}, {0, 8, 1, 1}, {0, 0, -1, 1}, {0, 0, 1, 8},
            {Integer.MIN_VALUE, 0, 0, 0}, {0, Integer.MAX_VALUE, 0, 0}, {8, 8, 8, 8}};
        for (int[] p : outside) {
            Refused.call("vertices " + p[0] + " " + p[1] + " " + p[2] + " " + p[3], Texts.INDEX,
                    text, x -> x.componentsBehind(p[0], p[1], p[2], p[3]));
        }
        Check.is("the first and the last",
                of(8, 0, "0-0 7-7").componentsBehind(7, 7, 0, 0), 7);
    }

    private static void componentsBehindNoSwitch() {
        String text = Texts.text(5, 2, "0-1 0-2 2-3", "");
        Check.is("reason 0", Texts.of(text).componentsBehind(0, 1, 3, 2), 2);
        int[][] refused = {{0, 4, 2, 3}, {0, 1, 0, 1}, {0, 1, 2, 0}, {0, 1, 0, 2}, {0, 1, 2, 3}};
        for (int k = 0; k < refused.length; k++) {
            int[] p = refused[k];
            Check.is("reason", Texts.of(text).reason(p[0], p[1], p[2], p[3]), k + 1);
            Refused.call("reason " + (k + 1), Texts.STATE, text,
                    x -> x.componentsBehind(p[0], p[1], p[2], p[3]));
        }
        SwitchGraphs x = Texts.of(text);
        x.setMode(1);
        Check.is("mode 1", x.componentsBehind(0, 1, 2, 3), 3);
        Check.throwing("mode 1, a loop", Texts.STATE, () -> x.componentsBehind(0, 1, 0, 2));
        x.setMode(0);
        Check.is("mode 0, a loop", x.componentsBehind(0, 1, 0, 2), 3);
    }

    // ---- promise 30

    private static void promise30() {
        Sentence.test("Promise 30",
                "Finds the switch of the list behind which the difference of the graph and the"
                        + " target would be smallest.",
                SwitchBoundaries::nearestSwitch);
        Sentence.test("Promise 30",
                "Returns its place in the list, the first one of several (also if the degrees are"
                        + " not the same).",
                SwitchBoundaries::nearestOfSeveral);
        Sentence.test("Promise 30", "Throws `NoSuchElementException` if the list is empty",
                SwitchBoundaries::nearestOfNone);
    }

    private static void nearestSwitch() {
        Check.is("the only one", Texts.made(2, 0, "0-1x2", "").nearest(), 0);
        Check.is("the first", Texts.made(4, 0, PAIRS, "0-2 1-3").nearest(), 0);
        Check.is("the last", Texts.made(4, 0, PAIRS, "0-3 1-2").nearest(), 1);
        Check.is("the last of 12",
                Texts.made(8, 0, "0-1 2-3 4-5 6-7", "0-1 2-3 4-7 5-6").nearest(), 11);
        Check.is("also if none is nearer than the graph itself",
                Texts.made(4, 0, PAIRS + " 2-2", PAIRS + " 2-2").nearest(), 0);
        // In the mode 0 the first switch adds loops; in the mode 1 it is not in the list.
        String graph = "0-1 0-2 2-3";
        Check.is("list of the mode 0", Texts.made(4, 0, graph, "0-2 0-3 1-2").nearest(), 2);
        Check.is("list of the mode 1", Texts.made(4, 1, graph, "0-2 0-3 1-2").nearest(), 1);
        Check.is("list of the mode 2", Texts.made(4, 2, graph, "0-2 0-3 1-2").nearest(), 0);
        SwitchGraphs x = Texts.made(4, 0, PAIRS, "0-3 1-2");
        x.nearest();
        Check.is("the graph stays", Texts.graph(x), PAIRS);
        Check.is("nor is it an edit", x.undo(), SwitchGraphs.NONE);
    }

    private static void nearestOfSeveral() {
        Check.is("of equal ones", Texts.made(4, 0, PAIRS, "").nearest(), 0);
        Check.is("of 12 equal ones", Texts.made(8, 0, "0-1 2-3 4-5 6-7", "").nearest(), 0);
        Check.is("of two better ones", Texts.made(8, 0, "0-1 2-3 4-5 6-7", "4-6 4-7").nearest(),
                10);
        Check.is("degrees not the same", Texts.made(4, 0, PAIRS, "0-3").nearest(), 1);
        Check.is("a target with more edges",
                Texts.made(4, 0, PAIRS, "0-3x8 1-2x8").nearest(), 1);
        Check.is("16 edges that the target does not have",
                Texts.made(8, 0, LARGE, "").nearest(), 0);
        Check.is("16 loops that the target does not have",
                Texts.made(2, 0, "0-0x8 1-1x8", "").nearest(), 0);
    }

    private static void nearestOfNone() {
        Refused.call("new", Texts.MISSING, "", x -> x.nearest());
        Refused.call("one edge", Texts.MISSING, Texts.text(2, 0, "0-1", "0-1"),
                x -> x.nearest());
        Check.is("two edges", Texts.made(2, 0, "0-1x2", "0-1").nearest(), 0);
        Refused.call("two edges in the mode 1", Texts.MISSING, Texts.text(2, 1, "0-1x2", ""),
                x -> x.nearest());
        Check.is("two loops in the mode 1", Texts.made(2, 1, "0-0 1-1", "").nearest(), 0);
        Refused.call("two loops in the mode 2", Texts.MISSING, Texts.text(2, 2, "0-0 1-1", ""),
                x -> x.nearest());
    }
}
