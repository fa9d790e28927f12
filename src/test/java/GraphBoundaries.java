/** Promises 6 to 15, at their boundaries. */
final class GraphBoundaries {
    /** 8 vertices with 16 edges, the target with 15: more than one loop and edge at both ends. */
    private static final String LARGE =
            Texts.text(8, 1, "0-0x2 0-6 0-7x3 3-4 6-7 7-7x8", "0-0x4 0-7 5-6x9 7-7");
    /** All 15 pairs of 6 vertices. */
    private static final String ALL_OF_SIX =
            "0-1 0-2 0-3 0-4 0-5 1-2 1-3 1-4 1-5 2-3 2-4 2-5 3-4 3-5 4-5";

    private GraphBoundaries() {
    }

    static void run() {
        promises6To8();
        promise9();
        promise10();
        promises11To13();
        promise14();
        promise15();
    }

    private static SwitchGraphs of(int vertices, String graph) {
        return Texts.made(vertices, 0, graph, "");
    }

    // ---- promises 6 to 8

    private static void promises6To8() {
        Sentence.test("Promise 6", "Returns the number of vertices.",
                GraphBoundaries::fewestAndMostVertices);
        Sentence.test("Promise 7", "Returns the mode.", GraphBoundaries::allModes);
        Sentence.test("Promise 8", "Returns the number of edges of the graph, or of the target.",
                GraphBoundaries::fewestAndMostEdges);
    }

    private static void fewestAndMostVertices() {
        Check.is("without a text", new SwitchGraphs().vertices(), 1);
        SwitchGraphs x = new SwitchGraphs();
        for (int n = 1; n <= 8; n++) {
            Texts.load(x, "vertices " + n + ";");
            Check.is("told", x.vertices(), n);
            Texts.load(x, "vertices 9;");
            Check.is("9 are too many, " + n + " stay", x.vertices(), n);
            Texts.load(x, "vertices 0;");
            Check.is("0 are too few, " + n + " stay", x.vertices(), n);
            Texts.load(x, "degrees" + " 2".repeat(n) + ";");
            Check.is("by degrees", x.vertices(), n);
        }
        x.exchange();
        x.copyToTarget();
        x.undo();
        Check.is("edits leave them", x.vertices(), 8);
        x.load(0);
        Check.is("an empty text", x.vertices(), 1);
    }

    private static void allModes() {
        Check.is("without a text", new SwitchGraphs().mode(), 0);
        SwitchGraphs x = new SwitchGraphs();
        for (int mode = 2; mode >= 0; mode--) {
            Texts.load(x, "vertices 1;mode " + mode + ";");
            Check.is("told", x.mode(), mode);
            Texts.load(x, "vertices 1;mode 3;");
            Check.is("3 is none, " + mode + " stays", x.mode(), mode);
            x.setMode((mode + 1) % 3);
            Check.is("set", x.mode(), (mode + 1) % 3);
            x.undo();
            Check.is("undone", x.mode(), mode);
        }
        Texts.load(x, "vertices 1;mode 2;");
        x.load(0);
        Check.is("an empty text", x.mode(), 0);
    }

    private static void fewestAndMostEdges() {
        Check.is("none", new SwitchGraphs().edges(false), 0);
        Check.is("none in the target", new SwitchGraphs().edges(true), 0);
        Check.is("one loop", of(1, "0-0").edges(false), 1);
        Check.is("one edge", of(2, "0-1").edges(false), 1);
        Check.is("15", of(2, "0-1x15").edges(false), 15);
        Check.is("16", of(2, "0-1x16").edges(false), 16);
        Check.is("16 loops", of(1, "0-0x16").edges(false), 16);
        Check.is("one in the target", Texts.made(2, 0, "", "1-1").edges(true), 1);
        Check.is("16 in the target", Texts.made(8, 0, "", "6-7x7 7-7x9").edges(true), 16);
        SwitchGraphs x = Texts.of(LARGE);
        Check.is("of the graph", x.edges(false), 16);
        Check.is("of the target", x.edges(true), 15);
        x.removeEdge(7, 7);
        Check.is("one less", x.edges(false), 15);
        Check.is("as many in the target", x.edges(true), 15);
    }

    // ---- promise 9

    private static void promise9() {
        Sentence.test("Promise 9, GRAPHS",
                "A graph has a number of edges between each two vertices and of loops at each"
                        + " vertex.",
                GraphBoundaries::allNumbersOfEdges);
        Sentence.test("Promise 9",
                "Returns the number of edges between two vertices of the graph or of the target, or"
                        + " the number of loops of a vertex.",
                GraphBoundaries::fewestAndMostTimes);
        Sentence.test("Promise 9",
                "Throws `IndexOutOfBoundsException` if there is no such vertex",
                GraphBoundaries::timesOfNoVertex);
    }

    private static void allNumbersOfEdges() {
        SwitchGraphs x = Texts.of(LARGE);
        int[][] due = new int[8][8];
        due[0][0] = 2;
        due[0][6] = 1;
        due[0][7] = 3;
        due[3][4] = 1;
        due[6][7] = 1;
        due[7][7] = 8;
        for (int u = 0; u < 8; u++) {
            for (int v = u; v < 8; v++) {
                Check.is(u + " to " + v, x.times(u, v, false), due[u][v]);
                Check.is(v + " to " + u, x.times(v, u, false), due[u][v]);
            }
        }
    }

    private static void fewestAndMostTimes() {
        SwitchGraphs x = Texts.of(LARGE);
        Check.is("none", x.times(0, 1, false), 0);
        Check.is("none in the target", x.times(6, 7, true), 0);
        Check.is("one", x.times(6, 7, false), 1);
        Check.is("loops", x.times(7, 7, false), 8);
        Check.is("one loop in the target", x.times(7, 7, true), 1);
        Check.is("loops in the target", x.times(0, 0, true), 4);
        Check.is("9 in the target", x.times(5, 6, true), 9);
        Check.is("9 in the target, back", x.times(6, 5, true), 9);
        Check.is("16 loops", of(1, "0-0x16").times(0, 0, false), 16);
        Check.is("16 edges", of(2, "0-1x16").times(1, 0, false), 16);
        Check.is("no loop beside them", of(2, "0-1x16").times(1, 1, false), 0);
        Check.is("16 in the target", Texts.made(2, 0, "", "0-1x16").times(1, 0, true), 16);
    }

    private static void timesOfNoVertex() {
        Refused.vertex("u", LARGE, 7, (x, v) -> x.times(v, 0, false));
        Refused.vertex("v", LARGE, 7, (x, v) -> x.times(0, v, false));
        Refused.vertex("u of the target", LARGE, 7, (x, v) -> x.times(v, 7, true));
        Refused.vertex("v of the target", LARGE, 7, (x, v) -> x.times(7, v, true));
        Refused.vertex("the only one", "", 0, (x, v) -> x.times(v, v, false));
        Refused.vertex("of three", "vertices 3;", 2, (x, v) -> x.times(v, 2, true));
    }

    // ---- promise 10

    private static void promise10() {
        Sentence.test("Promise 10, GRAPHS",
                "The degree of a vertex is the number of its edges, loops counted twice.",
                GraphBoundaries::loopsCountTwice);
        Sentence.test("Promise 10", "Returns the degree of a vertex in the graph or in the target.",
                GraphBoundaries::fewestAndGreatestDegrees);
        Sentence.test("Promise 10",
                "Throws `IndexOutOfBoundsException` if there is no such vertex",
                GraphBoundaries::degreeOfNoVertex);
    }

    private static void loopsCountTwice() {
        Check.is("no edge", of(2, "").degree(0, false), 0);
        Check.is("an edge", of(2, "0-1").degree(0, false), 1);
        Check.is("an edge, other end", of(2, "0-1").degree(1, false), 1);
        Check.is("a loop", of(2, "0-0").degree(0, false), 2);
        Check.is("a loop elsewhere", of(2, "0-0").degree(1, false), 0);
        Check.is("a loop and an edge", of(2, "0-0 0-1").degree(0, false), 3);
        Check.is("two loops and three edges", of(3, "0-1x2 1-1x2 1-2").degree(1, false), 7);
    }

    private static void fewestAndGreatestDegrees() {
        Check.is("0", new SwitchGraphs().degree(0, false), 0);
        Check.is("0 in the target", new SwitchGraphs().degree(0, true), 0);
        Check.is("32", of(1, "0-0x16").degree(0, false), 32);
        Check.is("31", of(2, "0-0x15 0-1").degree(0, false), 31);
        Check.is("1", of(2, "0-0x15 0-1").degree(1, false), 1);
        Check.is("32 in the target", Texts.made(1, 0, "", "0-0x16").degree(0, true), 32);
        SwitchGraphs x = Texts.of(LARGE);
        int[] graph = {8, 0, 0, 1, 1, 0, 2, 20};
        int[] target = {9, 0, 0, 0, 0, 9, 9, 3};
        for (int v = 0; v < 8; v++) {
            Check.is("degree of " + v, x.degree(v, false), graph[v]);
            Check.is("degree in the target of " + v, x.degree(v, true), target[v]);
        }
    }

    private static void degreeOfNoVertex() {
        Refused.vertex("in the graph", LARGE, 7, (x, v) -> x.degree(v, false));
        Refused.vertex("in the target", LARGE, 7, (x, v) -> x.degree(v, true));
        Refused.vertex("the only one", "", 0, (x, v) -> x.degree(v, false));
        Refused.vertex("of three", "degrees 2 2 2;", 2, (x, v) -> x.degree(v, true));
    }

    // ---- promises 11 to 13

    private static void promises11To13() {
        Sentence.test("Promise 11", "Returns the number of loops of the graph.",
                GraphBoundaries::fewestAndMostLoops);
        Sentence.test("Promise 12, GRAPHS",
                "The defects of a graph are its loops, and for each two different vertices the"
                        + " edges between them beyond the first one.",
                GraphBoundaries::edgesBeyondTheFirst);
        Sentence.test("Promise 12", "Returns the number of defects of the graph.",
                GraphBoundaries::fewestAndMostDefects);
        Sentence.test("Promise 13, GRAPHS",
                "A graph is simple if it has no loops and at most one edge between each two"
                        + " vertices.",
                GraphBoundaries::simpleGraphs);
        Sentence.test("Promise 13", "Returns whether the graph is simple.",
                GraphBoundaries::graphIsSimpleNotTheTarget);
    }

    private static void fewestAndMostLoops() {
        Check.is("no edges", of(8, "").loops(), 0);
        Check.is("edges alone", of(2, "0-1x16").loops(), 0);
        Check.is("one", of(8, "7-7").loops(), 1);
        Check.is("two at two vertices", of(8, "0-0 7-7").loops(), 2);
        Check.is("15", of(2, "0-0x15 0-1").loops(), 15);
        Check.is("16", of(1, "0-0x16").loops(), 16);
        Check.is("16 at all vertices",
                of(8, "0-0x2 1-1x2 2-2x2 3-3x2 4-4x2 5-5x2 6-6x2 7-7x2").loops(), 16);
        Check.is("not those of the target", Texts.made(2, 0, "0-0", "0-0x2 1-1x3").loops(), 1);
    }

    private static void edgesBeyondTheFirst() {
        Check.is("no edge", of(2, "").defects(), 0);
        Check.is("one edge", of(2, "0-1").defects(), 0);
        Check.is("two edges", of(2, "0-1x2").defects(), 1);
        Check.is("three edges", of(2, "0-1x3").defects(), 2);
        Check.is("no edge but a loop", of(2, "0-0").defects(), 1);
        Check.is("two loops", of(2, "0-0x2").defects(), 2);
        Check.is("two pairs of one edge", of(3, "0-1 1-2").defects(), 0);
        Check.is("two pairs of two edges", of(3, "0-1x2 1-2x2").defects(), 2);
        Check.is("all of them", of(8, "0-0 0-1x2 6-7x3 7-7").defects(), 5);
    }

    private static void fewestAndMostDefects() {
        Check.is("new", new SwitchGraphs().defects(), 0);
        Check.is("none of 15 edges", of(6, ALL_OF_SIX).defects(), 0);
        Check.is("none of 16 edges", of(8, ALL_OF_SIX + " 6-7").defects(), 0);
        Check.is("one of 16 edges", of(8, ALL_OF_SIX + " 6-6").defects(), 1);
        Check.is("15 of 16 edges", of(2, "0-1x16").defects(), 15);
        Check.is("16 of 16 loops", of(1, "0-0x16").defects(), 16);
        Check.is("not those of the target", Texts.made(2, 0, "0-1", "0-1x2 1-1").defects(), 0);
    }

    private static void simpleGraphs() {
        Check.is("no edge", of(2, "").isSimple(), true);
        Check.is("one edge", of(2, "0-1").isSimple(), true);
        Check.is("two edges between two", of(2, "0-1x2").isSimple(), false);
        Check.is("two edges between three", of(3, "0-1 1-2").isSimple(), true);
        Check.is("a loop", of(2, "0-0").isSimple(), false);
        Check.is("a loop beside an edge", of(2, "0-1 1-1").isSimple(), false);
        Check.is("two edges at the end", of(8, "0-1 6-7x2").isSimple(), false);
        Check.is("a loop at the end", of(8, "0-1 7-7").isSimple(), false);
        Check.is("15 edges", of(6, ALL_OF_SIX).isSimple(), true);
        Check.is("16 edges", of(7, ALL_OF_SIX + " 0-6").isSimple(), true);
        Check.is("a 16th edge too much", of(7, ALL_OF_SIX.replace("4-5", "4-5x2")).isSimple(),
                false);
    }

    private static void graphIsSimpleNotTheTarget() {
        SwitchGraphs x = Texts.made(2, 2, "0-1", "0-1x2");
        Check.is("the graph", x.isSimple(), true);
        x.exchange();
        Check.is("what was the target", x.isSimple(), false);
        x.removeEdge(0, 1);
        Check.is("one edge less", x.isSimple(), true);
        x.addEdge(1, 1);
        Check.is("one loop more", x.isSimple(), false);
        Check.is("new", new SwitchGraphs().isSimple(), true);
    }

    // ---- promises 14 and 15

    private static void promise14() {
        Sentence.test("Promise 14",
                "Returns the number of different neighbours of a vertex in the graph (itself not).",
                GraphBoundaries::fewestAndMostNeighbours);
        Sentence.test("Promise 14",
                "Throws `IndexOutOfBoundsException` if there is no such vertex",
                GraphBoundaries::neighboursOfNoVertex);
    }

    private static void fewestAndMostNeighbours() {
        Check.is("none", of(2, "").neighbours(0), 0);
        Check.is("one", of(2, "0-1").neighbours(0), 1);
        Check.is("one by two edges", of(2, "0-1x2").neighbours(0), 1);
        Check.is("two by two edges", of(3, "0-1 0-2").neighbours(0), 2);
        Check.is("itself not", of(2, "0-0x2").neighbours(0), 0);
        Check.is("itself not, but another one", of(2, "0-0x2 0-1").neighbours(0), 1);
        Check.is("not those of the target", Texts.made(2, 0, "", "0-1").neighbours(0), 0);
        String star = "0-3x2 1-3 2-3 3-3x2 3-4x3 3-5 3-6 3-7";
        Check.is("all of the others", of(8, star).neighbours(3), 7);
        Check.is("all but one", of(8, star.replace("0-3x2 ", "")).neighbours(3), 6);
        Check.is("all but the last one", of(8, star.replace(" 3-7", "")).neighbours(3), 6);
        Check.is("one of 8", of(8, star).neighbours(7), 1);
    }

    private static void neighboursOfNoVertex() {
        Refused.vertex("of 8", LARGE, 7, (x, v) -> x.neighbours(v));
        Refused.vertex("of one", "", 0, (x, v) -> x.neighbours(v));
        Refused.vertex("of three", "vertices 3;", 2, (x, v) -> x.neighbours(v));
    }

    private static void promise15() {
        Sentence.test("Promise 15",
                "Returns the number of triangles of the graph: of sets of three different vertices"
                        + " each two of which are joined by an edge.",
                GraphBoundaries::fewestAndMostTriangles);
    }

    private static void fewestAndMostTriangles() {
        Check.is("two vertices", of(2, "0-0x2 0-1x3 1-1").triangles(), 0);
        Check.is("two of three pairs", of(3, "0-1 1-2").triangles(), 0);
        Check.is("other two", of(3, "0-1 0-2").triangles(), 0);
        Check.is("the last two", of(3, "0-2 1-2").triangles(), 0);
        Check.is("three pairs", of(3, "0-1 0-2 1-2").triangles(), 1);
        Check.is("more edges and loops", of(3, "0-0 0-1x3 0-2x2 1-2x2 2-2").triangles(), 1);
        Check.is("the last three", of(8, "5-6 5-7 6-7").triangles(), 1);
        Check.is("the first and the last", of(8, "0-3 0-7 3-7").triangles(), 1);
        Check.is("two that share an edge", of(4, "0-1 0-2 1-2 1-3 2-3").triangles(), 2);
        Check.is("all of four", of(4, "0-1 0-2 0-3 1-2 1-3 2-3").triangles(), 4);
        Check.is("all of six", of(6, ALL_OF_SIX).triangles(), 20);
        Check.is("all but those with 4-5", of(6, ALL_OF_SIX.replace(" 4-5", "")).triangles(), 16);
        Check.is("not those of the target",
                Texts.made(3, 0, "0-1 0-2", "0-1 0-2 1-2").triangles(), 0);
    }
}
