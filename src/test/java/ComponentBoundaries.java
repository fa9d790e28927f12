/** Promises 16 to 21, at their boundaries. */
final class ComponentBoundaries {
    private static final String CHAIN = "0-1 1-2 2-3 3-4 4-5 5-6 6-7";
    /** The chain of 8 that jumps most: from 0 to 4 there are 7 steps. */
    private static final String JUMPS = "0-7 1-6 1-7 2-5 2-6 3-4 3-5";
    private static final String STAR = "0-1x2 0-2 0-3 0-4 0-5 0-6 0-7";

    private ComponentBoundaries() {
    }

    static void run() {
        promises16And17();
        promise18();
        promises19And20();
        promise21();
    }

    private static SwitchGraphs of(int vertices, String graph) {
        return Texts.made(vertices, 0, graph, "");
    }

    private static void numbers(int vertices, String graph, int... due) {
        SwitchGraphs x = of(vertices, graph);
        for (int v = 0; v < vertices; v++) {
            Check.is("component of " + v + " in " + graph, x.component(v), due[v]);
        }
    }

    // ---- promises 16 and 17

    private static void promises16And17() {
        Sentence.test("Promise 16, GRAPHS",
                "Two vertices are in the same component if they are the same or a way along edges"
                        + " leads from one to the other.",
                ComponentBoundaries::waysJoin);
        Sentence.test("Promise 16", "Returns the number of components of the graph.",
                ComponentBoundaries::fewestAndMostComponents);
        Sentence.test("Promise 17, GRAPHS",
                "Components are numbered from 0 by their smallest vertices.",
                ComponentBoundaries::numbersOfComponents);
        Sentence.test("Promise 17", "Returns the component of a vertex.",
                ComponentBoundaries::componentsOfVertices);
        Sentence.test("Promise 17",
                "Throws `IndexOutOfBoundsException` if there is no such vertex",
                ComponentBoundaries::componentOfNoVertex);
    }

    private static void waysJoin() {
        numbers(1, "", 0);
        numbers(2, "", 0, 1);
        numbers(2, "0-0 1-1", 0, 1);
        numbers(2, "0-1", 0, 0);
        numbers(3, "0-2 1-2", 0, 0, 0);
        numbers(8, CHAIN, 0, 0, 0, 0, 0, 0, 0, 0);
        numbers(8, JUMPS, 0, 0, 0, 0, 0, 0, 0, 0);
        numbers(8, CHAIN.replace(" 3-4", ""), 0, 0, 0, 0, 1, 1, 1, 1);
        numbers(8, JUMPS.replace(" 2-6", ""), 0, 0, 1, 1, 1, 1, 0, 0);
    }

    private static void fewestAndMostComponents() {
        Check.is("one vertex", new SwitchGraphs().components(), 1);
        Check.is("8 without edges", of(8, "").components(), 8);
        Check.is("8 with loops", of(8, "0-0x2 7-7").components(), 8);
        Check.is("one edge", of(8, "6-7x2").components(), 7);
        Check.is("all but one joined", of(8, CHAIN.replace(" 6-7", "")).components(), 2);
        Check.is("all joined", of(8, CHAIN).components(), 1);
        Check.is("all joined by jumps", of(8, JUMPS).components(), 1);
        Check.is("all joined by a star", of(8, STAR).components(), 1);
        Check.is("and one edge more", of(8, CHAIN + " 0-7").components(), 1);
        Check.is("not by the target", Texts.made(2, 0, "", "0-1").components(), 2);
    }

    private static void numbersOfComponents() {
        numbers(8, "", 0, 1, 2, 3, 4, 5, 6, 7);
        numbers(8, "0-7", 0, 1, 2, 3, 4, 5, 6, 0);
        numbers(8, "6-7", 0, 1, 2, 3, 4, 5, 6, 6);
        numbers(8, "1-7 2-6 3-5", 0, 1, 2, 3, 4, 3, 2, 1);
        numbers(4, "0-3 1-2", 0, 1, 1, 0);
        numbers(4, "1-3 2-3", 0, 1, 1, 1);
        // The late edge makes one of two: the greater number goes, and those behind move up.
        numbers(6, "0-4 1-5 2-3 4-5", 0, 0, 1, 1, 0, 0);
    }

    private static void componentsOfVertices() {
        SwitchGraphs x = of(3, "1-2");
        Check.is("the first", x.component(0), 0);
        Check.is("the last", x.component(2), 1);
        x.removeEdge(1, 2);
        Check.is("the last, alone", x.component(2), 2);
        x.addEdge(0, 2);
        Check.is("the last, with the first", x.component(2), 0);
        Check.is("the one between", x.component(1), 1);
        Check.is("not by the target", Texts.made(2, 0, "", "0-1").component(1), 1);
    }

    private static void componentOfNoVertex() {
        Refused.vertex("of 8", "vertices 8;", 7, (x, v) -> x.component(v));
        Refused.vertex("of one", "", 0, (x, v) -> x.component(v));
        Refused.vertex("of three", "degrees 1 0 1;", 2, (x, v) -> x.component(v));
    }

    // ---- promise 18

    private static void promise18() {
        Sentence.test("Promise 18",
                "Returns whether all vertices with edges are in one component (also if there are no"
                        + " edges).",
                ComponentBoundaries::connectedGraphs);
    }

    private static void connectedGraphs() {
        Check.is("one vertex", new SwitchGraphs().isConnected(), true);
        Check.is("no edges", of(8, "").isConnected(), true);
        Check.is("one edge", of(8, "2-5").isConnected(), true);
        Check.is("one loop", of(8, "5-5").isConnected(), true);
        Check.is("two edges that meet", of(8, "2-5 5-7").isConnected(), true);
        Check.is("two edges apart", of(8, "2-5 6-7").isConnected(), false);
        Check.is("an edge and a loop at it", of(8, "2-5 5-5").isConnected(), true);
        Check.is("an edge and a loop apart", of(8, "2-5 7-7").isConnected(), false);
        Check.is("two loops", of(8, "0-0 7-7").isConnected(), false);
        Check.is("two loops at one vertex", of(8, "7-7x2").isConnected(), true);
        Check.is("all vertices", of(8, JUMPS).isConnected(), true);
        Check.is("all vertices in two", of(8, JUMPS.replace(" 2-6", "")).isConnected(), false);
        Check.is("the target is not asked", Texts.made(4, 0, "0-1", "0-1 2-3").isConnected(), true);
    }

    // ---- promises 19 and 20

    private static void promises19And20() {
        Sentence.test("Promise 19, GRAPHS",
                "An edge is a bridge if its ends are in different components without it (a loop"
                        + " never is).",
                ComponentBoundaries::bridgesAndOthers);
        Sentence.test("Promise 19", "Tells whether the edge between two vertices is a bridge.",
                ComponentBoundaries::eachEdgeOfATailedRing);
        Sentence.test("Promise 19",
                "Throws `IndexOutOfBoundsException` if there is no such vertex",
                ComponentBoundaries::bridgeOfNoVertex);
        Sentence.test("Promise 19",
                "Throws `NoSuchElementException` if there is no edge between them (no loop, if they"
                        + " are the same)",
                ComponentBoundaries::bridgeWithoutEdge);
        Sentence.test("Promise 20", "Returns the number of bridges of the graph.",
                ComponentBoundaries::fewestAndMostBridges);
    }

    private static void bridgesAndOthers() {
        Check.is("the only edge", of(2, "0-1").isBridge(0, 1), true);
        Check.is("one of two", of(2, "0-1x2").isBridge(0, 1), false);
        Check.is("a loop", of(2, "0-0").isBridge(0, 0), false);
        Check.is("one of two loops", of(2, "1-1x2").isBridge(1, 1), false);
        Check.is("between two loops", of(2, "0-0 0-1 1-1").isBridge(0, 1), true);
        Check.is("a way of two beside it", of(3, "0-1 0-2 1-2").isBridge(0, 1), false);
        Check.is("half a way beside it", of(3, "0-1 0-2").isBridge(0, 1), true);
        Check.is("a way of seven beside it", of(8, CHAIN + " 0-7").isBridge(0, 7), false);
        Check.is("no way beside it", of(8, CHAIN.replace(" 3-4", "") + " 0-7").isBridge(0, 7),
                true);
    }

    private static void eachEdgeOfATailedRing() {
        SwitchGraphs x = of(8, "0-1 0-2 1-2 2-7 6-7");
        Check.is("ring", x.isBridge(0, 1), false);
        Check.is("ring, back", x.isBridge(2, 1), false);
        Check.is("tail", x.isBridge(2, 7), true);
        Check.is("tail, back", x.isBridge(7, 2), true);
        Check.is("its end", x.isBridge(6, 7), true);
        Check.is("the graph stays", Texts.graph(x), "0-1 0-2 1-2 2-7 6-7");
        x.removeEdge(0, 1);
        Check.is("of no ring any more", x.isBridge(2, 1), true);
    }

    private static void bridgeOfNoVertex() {
        String all = Texts.text(3, 0, "0-0 0-1 0-2 1-1 1-2 2-2", "");
        Refused.vertex("u", all, 2, (x, v) -> x.isBridge(v, 0));
        Refused.vertex("v", all, 2, (x, v) -> x.isBridge(0, v));
        Refused.vertex("the only one", "vertices 1;edge 0 0;", 0, (x, v) -> x.isBridge(v, v));
        Refused.vertex("u of 8", Texts.text(8, 0, "0-0 " + STAR, ""), 7,
                (x, v) -> x.isBridge(v, 0));
    }

    private static void bridgeWithoutEdge() {
        String one = Texts.text(3, 0, "0-1", "0-0 0-2 1-2");
        Check.is("there is one", Texts.of(one).isBridge(0, 1), true);
        Refused.call("none", Texts.MISSING, one, x -> x.isBridge(0, 2));
        Refused.call("none, either", Texts.MISSING, one, x -> x.isBridge(2, 1));
        Refused.call("no loop", Texts.MISSING, one, x -> x.isBridge(0, 0));
        Refused.call("no loop at the last one", Texts.MISSING, one, x -> x.isBridge(2, 2));
        Refused.call("no vertex comes first", Texts.INDEX, one, x -> x.isBridge(0, 3));
        SwitchGraphs x = Texts.of(one);
        x.removeEdge(0, 1);
        Check.throwing("there is none any more", Texts.MISSING, () -> x.isBridge(0, 1));
        x.addEdge(0, 0);
        Check.is("there is a loop now", x.isBridge(0, 0), false);
    }

    private static void fewestAndMostBridges() {
        Check.is("one vertex", new SwitchGraphs().bridges(), 0);
        Check.is("loops", of(2, "0-0 1-1x2").bridges(), 0);
        Check.is("one edge", of(2, "0-1").bridges(), 1);
        Check.is("two edges", of(2, "0-1x2").bridges(), 0);
        Check.is("a chain of 8", of(8, CHAIN).bridges(), 7);
        Check.is("jumps", of(8, JUMPS).bridges(), 7);
        Check.is("a star", of(8, STAR).bridges(), 6);
        Check.is("a ring of 8", of(8, CHAIN + " 0-7").bridges(), 0);
        Check.is("a ring of 7 and a tail", of(8, CHAIN + " 0-6").bridges(), 1);
        Check.is("four pairs", of(8, "0-1 2-3 4-5 6-7").bridges(), 4);
        Check.is("four pairs, the last one twice", of(8, "0-1 2-3 4-5 6-7x2").bridges(), 3);
        Check.is("none of the target", Texts.made(2, 0, "", "0-1").bridges(), 0);
    }

    // ---- promise 21

    private static void promise21() {
        Sentence.test("Promise 21",
                "Returns the smallest number of edges on a way from one vertex of the graph to"
                        + " another one.",
                ComponentBoundaries::shortestAndLongestWays);
        Sentence.test("Promise 21",
                "Returns the number, 0 for the same vertex; NONE if there is no way.",
                ComponentBoundaries::noWayAndNoStep);
        Sentence.test("Promise 21",
                "Throws `IndexOutOfBoundsException` if there is no such vertex",
                ComponentBoundaries::wayOfNoVertex);
    }

    private static void shortestAndLongestWays() {
        SwitchGraphs chain = of(8, CHAIN);
        for (int to = 0; to < 8; to++) {
            Check.is("to " + to, chain.way(0, to), to);
            Check.is("from " + to, chain.way(to, 0), to);
        }
        Check.is("jumps", of(8, JUMPS).way(0, 4), 7);
        Check.is("jumps, one less", of(8, JUMPS).way(7, 4), 6);
        Check.is("a ring", of(8, CHAIN + " 0-7").way(0, 4), 4);
        Check.is("the other way round", of(8, CHAIN + " 0-7").way(0, 5), 3);
        Check.is("one of 16 edges", of(2, "0-1x16").way(1, 0), 1);
        Check.is("the shorter one of two", of(4, "0-1 0-3 1-2 2-3").way(0, 3), 1);
    }

    private static void noWayAndNoStep() {
        Check.is("the only vertex", new SwitchGraphs().way(0, 0), 0);
        Check.is("a vertex without edges", of(8, "").way(7, 7), 0);
        Check.is("with a loop", of(2, "1-1").way(1, 1), 0);
        Check.is("with a way around", of(3, "0-1 0-2 1-2").way(2, 2), 0);
        Check.is("no edges", of(2, "").way(0, 1), SwitchGraphs.NONE);
        Check.is("loops alone", of(2, "0-0 1-1").way(0, 1), SwitchGraphs.NONE);
        Check.is("an edge", of(2, "0-1").way(0, 1), 1);
        Check.is("the last one apart", of(8, CHAIN.replace(" 6-7", "")).way(0, 7),
                SwitchGraphs.NONE);
        Check.is("the one before it", of(8, CHAIN.replace(" 6-7", "")).way(0, 6), 6);
        Check.is("not along the target", Texts.made(2, 0, "", "0-1").way(0, 1),
                SwitchGraphs.NONE);
    }

    private static void wayOfNoVertex() {
        Refused.vertex("from", Texts.text(8, 0, CHAIN, ""), 7, (x, v) -> x.way(v, 0));
        Refused.vertex("to", Texts.text(8, 0, CHAIN, ""), 7, (x, v) -> x.way(0, v));
        Refused.vertex("both", "vertices 3;", 2, (x, v) -> x.way(v, v));
        Refused.vertex("the only one", "", 0, (x, v) -> x.way(0, v));
    }
}
