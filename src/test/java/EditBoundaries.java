/** Promises 36 to 45 and the order of exceptions, at their boundaries. */
final class EditBoundaries {
    private static final String PAIRS = "0-1 2-3";
    private static final String THREE = Texts.text(6, 1, "0-1 2-3 4-5", "0-3 1-4 2-5");
    private static final String LONGEST = PathBoundaries.LONGEST;
    private static final String UNLIKE = Texts.text(3, 0, "0-1", "0-2");

    private EditBoundaries() {
    }

    static void run() {
        orderOfExceptions();
        promises36And37();
        promise38();
        realisations();
        promise39();
        promise40();
        promise41();
        promise42();
        promises43And44();
        promise45();
    }

    private static SwitchGraphs of(int vertices, String graph) {
        return Texts.made(vertices, 0, graph, "");
    }

    // ---- the order of exceptions

    private static void orderOfExceptions() {
        Sentence.test("Promise 36, ERRORS AND EDITS",
                "A vertex, slack, switch or other index that does not exist throws"
                        + " IndexOutOfBoundsException; this is checked first.",
                EditBoundaries::indexFirst);
        Sentence.test("Promise 40, ERRORS AND EDITS",
                "A parameter that is out of its range throws IllegalArgumentException; this is"
                        + " checked next.",
                EditBoundaries::argumentNext);
        Sentence.test("Promise 37, ERRORS AND EDITS",
                "What is not there throws NoSuchElementException.",
                EditBoundaries::notThere);
        Sentence.test("Promise 38, ERRORS AND EDITS",
                "What is not possible in the present state throws IllegalStateException; this is"
                        + " checked last.",
                EditBoundaries::stateLast);
        Sentence.test("Promise 38, ERRORS AND EDITS",
                "A call that throws an exception changes nothing.",
                EditBoundaries::refusedCallsChangeNothing);
    }

    private static void indexFirst() {
        Check.throwing("no vertex, no edge", Texts.INDEX, () -> of(2, "").isBridge(0, 2));
        Check.throwing("no vertex, no edge to remove", Texts.INDEX,
                () -> of(2, "").removeEdge(0, 2));
        Check.throwing("no vertex, 16 edges", Texts.INDEX, () -> of(2, "0-1x16").addEdge(2, 0));
        Check.throwing("no vertex, no switch", Texts.INDEX,
                () -> of(2, "").componentsBehind(0, 1, 0, 2));
        Check.throwing("no vertex, no switch to do", Texts.INDEX,
                () -> of(2, "").switchEdges(0, 1, 0, 2));
        Check.throwing("no switch, no vertex of it", Texts.INDEX,
                () -> of(2, "").switchAt(0, 4));
        Check.throwing("no step of the path, no vertex of it", Texts.INDEX,
                () -> of(2, "").path(0, 4));
        Check.throwing("no slack", Texts.INDEX, () -> of(2, "").slack(3));
        Check.throwing("no degree", Texts.INDEX, () -> of(2, "").sorted(2));
        Check.throwing("no character", Texts.INDEX, () -> of(2, "").written(0));
    }

    private static void argumentNext() {
        Check.throwing("many, other degrees", Texts.ARGUMENT, () -> Texts.of(UNLIKE).follow(17));
        Check.throwing("many below, other degrees", Texts.ARGUMENT,
                () -> Texts.of(UNLIKE).follow(-1));
        Check.throwing("mode, with no realisation but in the mode 0", Texts.ARGUMENT,
                () -> of(1, "0-0").realise(3));
        Check.throwing("mode below", Texts.ARGUMENT, () -> of(1, "0-0").realise(-1));
        Check.throwing("what of a switch", Texts.ARGUMENT, () -> of(4, PAIRS).switchAt(0, 4));
        Check.throwing("what of a step", Texts.ARGUMENT, () -> Texts.of(THREE).path(0, 4));
        Check.throwing("mode to set", Texts.ARGUMENT, () -> of(1, "").setMode(3));
        Check.throwing("mode to ask for", Texts.ARGUMENT, () -> of(1, "").isPossible(3));
        Check.throwing("length", Texts.ARGUMENT, () -> of(1, "").load(1));
    }

    private static void notThere() {
        Check.throwing("an edge to remove", Texts.MISSING, () -> of(2, "").removeEdge(0, 1));
        Check.throwing("an edge to ask for", Texts.MISSING, () -> of(2, "").isBridge(0, 1));
        Check.throwing("the nearest of no switches", Texts.MISSING, () -> of(2, "0-1").nearest());
        Check.passing("an edge to remove", () -> of(2, "0-1").removeEdge(0, 1));
        Check.passing("an edge to ask for", () -> of(2, "0-1").isBridge(0, 1));
        Check.passing("the nearest of one switch", () -> of(2, "0-1x2").nearest());
    }

    private static void stateLast() {
        Check.throwing("16 edges", Texts.STATE, () -> of(2, "0-1x16").addEdge(0, 1));
        Check.throwing("no switch", Texts.STATE, () -> of(2, "").componentsBehind(0, 1, 0, 1));
        Check.throwing("no switch to do", Texts.STATE, () -> of(2, "").switchEdges(0, 1, 0, 1));
        Check.throwing("no realisation", Texts.STATE, () -> of(1, "0-0").realise(1));
        Check.throwing("other degrees", Texts.STATE, () -> Texts.of(UNLIKE).follow(16));
        Check.throwing("other degrees, no path", Texts.STATE, () -> Texts.of(UNLIKE).pathLength());
        Check.throwing("other degrees, no distance", Texts.STATE,
                () -> Texts.of(UNLIKE).distance());
    }

    private static void refusedCallsChangeNothing() {
        String unlike = Texts.text(3, 2, "0-0 0-1", "0-2");
        Refused.call("load", Texts.ARGUMENT, unlike, x -> x.load(21));
        Refused.call("times", Texts.INDEX, unlike, x -> x.times(3, 0, true));
        Refused.call("degree", Texts.INDEX, unlike, x -> x.degree(3, false));
        Refused.call("neighbours", Texts.INDEX, unlike, x -> x.neighbours(3));
        Refused.call("component", Texts.INDEX, unlike, x -> x.component(3));
        Refused.call("isBridge, index", Texts.INDEX, unlike, x -> x.isBridge(3, 0));
        Refused.call("isBridge, missing", Texts.MISSING, unlike, x -> x.isBridge(1, 1));
        Refused.call("way", Texts.INDEX, unlike, x -> x.way(0, 3));
        Refused.call("sorted", Texts.INDEX, unlike, x -> x.sorted(3));
        Refused.call("slack", Texts.INDEX, unlike, x -> x.slack(4));
        Refused.call("isPossible", Texts.ARGUMENT, unlike, x -> x.isPossible(3));
        Refused.call("reason", Texts.INDEX, unlike, x -> x.reason(0, 1, 0, 3));
        Refused.call("switchAt, index", Texts.INDEX, unlike, x -> x.switchAt(9, 0));
        Refused.call("componentsBehind, index", Texts.INDEX, unlike,
                x -> x.componentsBehind(0, 1, 0, 3));
        Refused.call("componentsBehind, state", Texts.STATE, unlike,
                x -> x.componentsBehind(0, 1, 0, 0));
        Refused.call("nearest", Texts.MISSING, unlike, x -> x.nearest());
        Refused.call("pathLength", Texts.STATE, unlike, x -> x.pathLength());
        Refused.call("path, state", Texts.STATE, unlike, x -> x.path(0, 0));
        Refused.call("distance", Texts.STATE, unlike, x -> x.distance());
        Refused.call("addEdge, index", Texts.INDEX, unlike, x -> x.addEdge(0, 3));
        Refused.call("removeEdge, index", Texts.INDEX, unlike, x -> x.removeEdge(3, 0));
        Refused.call("removeEdge, missing", Texts.MISSING, unlike, x -> x.removeEdge(0, 2));
        Refused.call("switchEdges, index", Texts.INDEX, unlike, x -> x.switchEdges(0, 0, 3, 1));
        Refused.call("switchEdges, state", Texts.STATE, unlike, x -> x.switchEdges(0, 0, 0, 1));
        Refused.call("realise, argument", Texts.ARGUMENT, unlike, x -> x.realise(3));
        Refused.call("realise, state", Texts.STATE, unlike, x -> x.realise(2));
        Refused.call("follow, argument", Texts.ARGUMENT, unlike, x -> x.follow(17));
        Refused.call("follow, state", Texts.STATE, unlike, x -> x.follow(0));
        Refused.call("setMode", Texts.ARGUMENT, unlike, x -> x.setMode(3));
        Refused.call("written", Texts.INDEX, unlike, x -> x.written(7));
        String full = Texts.text(4, 1, "0-1x8 2-3x8", "0-1x8 2-2x4 3-3x4");
        Refused.call("addEdge, state", Texts.STATE, full, x -> x.addEdge(0, 0));
        Refused.call("switchAt, argument", Texts.ARGUMENT, full, x -> x.switchAt(0, 4));
        Refused.call("path, index", Texts.INDEX, full, x -> x.path(4, 0));
        Refused.call("path, argument", Texts.ARGUMENT, full, x -> x.path(3, 4));
    }

    // ---- promises 36 and 37

    private static void promises36And37() {
        Sentence.test("Promise 36", "Adds an edge to the graph (in any mode).",
                EditBoundaries::addsInAnyMode);
        Sentence.test("Promise 36", "Returns the number of edges between these vertices then.",
                EditBoundaries::edgesOneByOne);
        Sentence.test("Promise 36",
                "Throws `IndexOutOfBoundsException` if there is no such vertex",
                EditBoundaries::addsToNoVertex);
        Sentence.test("Promise 36", "Throws `IllegalStateException` if the graph has 16 edges",
                EditBoundaries::seventeenthEdge);
        Sentence.test("Promise 37", "Removes an edge of the graph.", EditBoundaries::removesOne);
        Sentence.test("Promise 37", "Returns the number of edges between these vertices then.",
                EditBoundaries::edgesLeft);
        Sentence.test("Promise 37",
                "Throws `IndexOutOfBoundsException` if there is no such vertex",
                EditBoundaries::removesFromNoVertex);
        Sentence.test("Promise 37",
                "Throws `NoSuchElementException` if there is no edge between them",
                EditBoundaries::removesNone);
    }

    private static void addsInAnyMode() {
        for (int mode = 0; mode <= 2; mode++) {
            SwitchGraphs x = Texts.made(8, mode, "0-7", "0-7");
            Check.is("an edge", x.addEdge(6, 7), 1);
            Check.is("a second one", x.addEdge(7, 0), 2);
            Check.is("a loop", x.addEdge(7, 7), 1);
            Check.is("a second loop", x.addEdge(7, 7), 2);
            Check.is("the graph", Texts.graph(x), "0-7x2 6-7 7-7x2");
            Check.is("the target stays", Texts.target(x), "0-7");
            Check.is("the mode stays", x.mode(), mode);
        }
    }

    private static void edgesOneByOne() {
        SwitchGraphs edges = of(2, "");
        SwitchGraphs loops = of(2, "");
        for (int k = 1; k <= 16; k++) {
            Check.is("edges", edges.addEdge(k % 2, (k + 1) % 2), k);
            Check.is("loops", loops.addEdge(1, 1), k);
        }
        Check.is("15 elsewhere", of(2, "0-0x15").addEdge(0, 1), 1);
    }

    private static void addsToNoVertex() {
        Refused.vertex("u", THREE, 5, (x, v) -> x.addEdge(v, 0));
        Refused.vertex("v", THREE, 5, (x, v) -> x.addEdge(0, v));
        Refused.vertex("u of 8", "vertices 8;", 7, (x, v) -> x.addEdge(v, 7));
        Refused.vertex("the only one", "", 0, (x, v) -> x.addEdge(v, v));
        Refused.call("of a full graph, too", Texts.INDEX, "degrees 16 16;", x -> x.addEdge(0, 2));
    }

    private static void seventeenthEdge() {
        String fifteen = Texts.text(2, 0, "0-1x15", "0-0x16");
        Check.is("the 16th", Texts.of(fifteen).addEdge(0, 1), 16);
        Check.is("the 16th, a loop", Texts.of(fifteen).addEdge(1, 1), 1);
        String sixteen = Texts.text(2, 0, "0-1x16", "0-0");
        Refused.call("the 17th", Texts.STATE, sixteen, x -> x.addEdge(0, 1));
        Refused.call("the 17th, a loop", Texts.STATE, sixteen, x -> x.addEdge(1, 1));
        SwitchGraphs x = Texts.of(sixteen);
        x.removeEdge(0, 1);
        Check.is("the 16th again", x.addEdge(0, 0), 1);
        Check.throwing("the 17th again", Texts.STATE, () -> x.addEdge(0, 0));
        x.exchange();
        Check.is("the target had one", x.addEdge(0, 0), 2);
        x.undo();
        x.undo();
        x.undo();
        Check.is("an undone one leaves a place", x.addEdge(1, 1), 1);
    }

    private static void removesOne() {
        SwitchGraphs x = Texts.made(8, 2, "0-0x2 0-7 6-7x3", "0-7");
        x.removeEdge(7, 6);
        Check.is("one of three", Texts.graph(x), "0-0x2 0-7 6-7x2");
        x.removeEdge(0, 0);
        Check.is("one of two loops", Texts.graph(x), "0-0 0-7 6-7x2");
        x.removeEdge(0, 7);
        Check.is("the only one", Texts.graph(x), "0-0 6-7x2");
        Check.is("the number of edges", x.edges(false), 3);
        Check.is("the target stays", Texts.target(x), "0-7");
        Check.is("the mode stays", x.mode(), 2);
    }

    private static void edgesLeft() {
        SwitchGraphs edges = of(2, "0-1x16");
        SwitchGraphs loops = of(2, "1-1x16");
        for (int k = 15; k >= 0; k--) {
            Check.is("edges", edges.removeEdge(k % 2, (k + 1) % 2), k);
            Check.is("loops", loops.removeEdge(1, 1), k);
        }
        Check.throwing("no edge", Texts.MISSING, () -> edges.removeEdge(0, 1));
        Check.throwing("no loop", Texts.MISSING, () -> loops.removeEdge(1, 1));
    }

    private static void removesFromNoVertex() {
        String all = Texts.text(3, 0, "0-0 0-1 0-2 1-1 1-2 2-2", "");
        Refused.vertex("u", all, 2, (x, v) -> x.removeEdge(v, 0));
        Refused.vertex("v", all, 2, (x, v) -> x.removeEdge(0, v));
        Refused.vertex("the only one", "degrees 2;", 0, (x, v) -> x.removeEdge(v, v));
        Refused.vertex("u of 8", Texts.text(8, 0, "0-7 1-7 2-7 3-7 4-7 5-7 6-7 7-7", ""), 7,
                (x, v) -> x.removeEdge(v, 7));
    }

    private static void removesNone() {
        String one = Texts.text(3, 1, "0-1 2-2", "0-0 0-2 1-2");
        Check.is("one", Texts.of(one).removeEdge(0, 1), 0);
        Check.is("one loop", Texts.of(one).removeEdge(2, 2), 0);
        Refused.call("none", Texts.MISSING, one, x -> x.removeEdge(0, 2));
        Refused.call("none at the end", Texts.MISSING, one, x -> x.removeEdge(2, 1));
        Refused.call("no loop", Texts.MISSING, one, x -> x.removeEdge(0, 0));
        Refused.call("of an empty graph", Texts.MISSING, "", x -> x.removeEdge(0, 0));
    }

    // ---- promise 38

    private static void promise38() {
        Sentence.test("Promise 38", "Does a switch.", EditBoundaries::doesASwitch);
        Sentence.test("Promise 38", "Returns the number of defects then.",
                EditBoundaries::defectsBehindASwitch);
        Sentence.test("Promise 38",
                "Throws `IndexOutOfBoundsException` if there is no such vertex",
                EditBoundaries::switchesNoVertex);
        Sentence.test("Promise 38",
                "Throws `IllegalStateException` if the switch is not possible",
                EditBoundaries::switchesImpossible);
    }

    private static void doesASwitch() {
        SwitchGraphs x = Texts.made(8, 2, "0-1 6-7", "0-1");
        x.switchEdges(7, 6, 1, 0);
        Check.is("graph", Texts.graph(x), "0-6 1-7");
        x.switchEdges(0, 6, 1, 7);
        Check.is("back", Texts.graph(x), "0-1 6-7");
        Check.is("target", Texts.target(x), "0-1");
        Check.is("mode", x.mode(), 2);
        Check.is("edges", x.edges(false), 2);
        Check.is("degree of the last", x.degree(7, false), 1);
        SwitchGraphs full = of(8, "0-1x15 6-7");
        Check.is("with 16 edges", full.switchEdges(0, 1, 6, 7), 13);
        Check.is("still 16", full.edges(false), 16);
    }

    private static void defectsBehindASwitch() {
        Check.is("none", of(4, PAIRS).switchEdges(0, 1, 2, 3), 0);
        Check.is("none any more", of(3, "0-0 1-2").switchEdges(0, 0, 1, 2), 0);
        Check.is("one of two", of(2, "0-0 1-1").switchEdges(0, 0, 1, 1), 1);
        Check.is("two of one", of(2, "0-1x2").switchEdges(0, 1, 0, 1), 2);
        Check.is("a loop", of(3, "0-1 0-2").switchEdges(0, 1, 0, 2), 1);
        Check.is("of 16", of(2, "0-1x16").switchEdges(0, 1, 0, 1), 15);
        Check.is("of 16 loops", of(2, "0-0x8 1-1x8").switchEdges(0, 0, 1, 1), 15);
        Check.is("of 16 edges, loops more and more",
                of(2, "0-0x7 0-1x2 1-1x7").switchEdges(0, 1, 0, 1), 16);
    }

    private static void switchesNoVertex() {
        String text = Texts.text(8, 0, PAIRS, "");
        int[][] outside = {{-1, 1, 2, 3}, {8, 1, 2, 3}, {0, -1, 2, 3}, {0, 8, 2, 3},
            {0, 1, -1, 3}, {0, 1, 8, 3}, {0, 1, 2, -1}, {0, 1, 2, 8},
            {Integer.MIN_VALUE, 1, 2, 3}, {0, 1, 2, Integer.MAX_VALUE}, {9, 9, 9, 9}};
        for (int[] p : outside) {
            Refused.call("vertices " + p[0] + " " + p[1] + " " + p[2] + " " + p[3], Texts.INDEX,
                    text, x -> x.switchEdges(p[0], p[1], p[2], p[3]));
        }
        Check.is("the first and the last", of(8, "0-7 1-6").switchEdges(0, 7, 6, 1), 0);
        Refused.call("4 of four", Texts.INDEX, Texts.text(4, 0, PAIRS, ""),
                x -> x.switchEdges(0, 1, 2, 4));
    }

    private static void switchesImpossible() {
        String text = Texts.text(5, 2, "0-1 0-2 2-3", "0-1");
        Check.is("reason 0", Texts.of(text).switchEdges(0, 1, 3, 2), 0);
        int[][] refused = {{0, 4, 2, 3}, {0, 1, 0, 1}, {0, 1, 2, 0}, {0, 1, 0, 2}, {0, 1, 2, 3}};
        for (int k = 0; k < refused.length; k++) {
            int[] p = refused[k];
            Check.is("reason", Texts.of(text).reason(p[0], p[1], p[2], p[3]), k + 1);
            Refused.call("reason " + (k + 1), Texts.STATE, text,
                    x -> x.switchEdges(p[0], p[1], p[2], p[3]));
        }
        SwitchGraphs x = Texts.of(text);
        x.setMode(1);
        Check.throwing("reason 4 in the mode 1", Texts.STATE, () -> x.switchEdges(0, 1, 0, 2));
        Check.is("no reason 5 in the mode 1", x.switchEdges(0, 1, 2, 3), 1);
        x.undo();
        x.setMode(0);
        Check.is("no reason 4 in the mode 0", x.switchEdges(0, 1, 0, 2), 1);
    }

    // ---- realisations

    private static void realisations() {
        Sentence.test("Promise 39, GRAPHS",
                "The realisation of degrees in the mode 0: each vertex has as many loops as its"
                        + " degree / 2, rounded down; the vertices with odd degrees, in order, are"
                        + " then joined by edges in pairs.",
                EditBoundaries::realisationsWithLoops);
        Sentence.test("Promise 39, GRAPHS",
                "In the mode 1 (without loops): again and again, the vertex that lacks most edges"
                        + " is joined by one edge to the one of the others that lacks most (of"
                        + " several that lack the same, the smaller ones), as long as some vertex"
                        + " lacks edges.",
                EditBoundaries::realisationsWithoutLoops);
        Sentence.test("Promise 39, GRAPHS",
                "In the mode 2 (simple): again and again, as long as some vertex lacks edges, the"
                        + " vertex that lacks most (of several the smallest one) is joined by one"
                        + " edge each to as many other vertices as it lacks, those that lack most"
                        + " (of several the smaller ones).",
                EditBoundaries::simpleRealisations);
    }

    private static void realises(String degrees, int mode, String due) {
        SwitchGraphs x = Texts.of("degrees " + degrees + ";");
        x.realise(mode);
        Check.is(degrees + " in the mode " + mode, Texts.graph(x), due);
        // Its own realisation is the same again: the degrees stay.
        x.realise(mode);
        Check.is("again, " + degrees + " in the mode " + mode, Texts.graph(x), due);
    }

    private static void realisationsWithLoops() {
        realises("0", 0, "");
        realises("2", 0, "0-0");
        realises("3 1", 0, "0-0 0-1");
        realises("4 0", 0, "0-0x2");
        realises("1 1", 0, "0-1");
        realises("1 0 1 1 2 1", 0, "0-2 3-5 4-4");
        realises("31 1", 0, "0-0x15 0-1");
        realises("0 32", 0, "1-1x16");
        realises("1 1 1 1 1 1 1 1", 0, "0-1 2-3 4-5 6-7");
        realises("3 5 3 5 3 5 3 5", 0, "0-0 0-1 1-1x2 2-2 2-3 3-3x2 4-4 4-5 5-5x2 6-6 6-7 7-7x2");
        SwitchGraphs x = of(4, "0-1 0-2 0-3 2-3x2");
        x.realise(0);
        Check.is("of degrees that the text does not tell", Texts.graph(x),
                "0-0 0-1 2-2 2-3 3-3");
    }

    private static void realisationsWithoutLoops() {
        realises("0", 1, "");
        realises("0 0 0", 1, "");
        realises("1 1", 1, "0-1");
        realises("0 1 1", 1, "1-2");
        realises("16 16", 1, "0-1x16");
        // Of several that lack the same, the smaller ones, first and second.
        realises("1 1 1 1", 1, "0-1 2-3");
        realises("2 2 2", 1, "0-1 0-2 1-2");
        realises("2 2 2 2", 1, "0-1x2 2-3x2");
        // One more than the others, and as many as they have together.
        realises("1 2 1", 1, "0-1 1-2");
        realises("1 1 1 3", 1, "0-3 1-3 2-3");
        realises("2 1 1 0 4", 1, "0-4x2 1-4 2-4");
        realises("1 1 1 1 1 1 1 7", 1, "0-7 1-7 2-7 3-7 4-7 5-7 6-7");
        // 2 lacks most; then 0, 1 and 2 lack the same, and then 1 and 3.
        realises("2 2 3 1", 1, "0-1 0-2 1-2 2-3");
    }

    private static void simpleRealisations() {
        realises("0", 2, "");
        realises("0 0 0", 2, "");
        realises("1 1", 2, "0-1");
        realises("0 1 1", 2, "1-2");
        realises("1 1 1 1", 2, "0-1 2-3");
        realises("2 2 2", 2, "0-1 0-2 1-2");
        realises("2 2 2 2", 2, "0-1 0-2 1-3 2-3");
        realises("1 2 1", 2, "0-1 1-2");
        realises("1 1 1 1 1 1 1 7", 2, "0-7 1-7 2-7 3-7 4-7 5-7 6-7");
        realises("7 1 1 1 1 1 1 1", 2, "0-1 0-2 0-3 0-4 0-5 0-6 0-7");
        realises("3 3 3 3", 2, "0-1 0-2 0-3 1-2 1-3 2-3");
        // 0 takes 1, 2 and 3, though 1 lacks as many as 2 and 3 when it is taken.
        realises("3 3 2 2", 2, "0-1 0-2 0-3 1-2 1-3");
        realises("2 2 3 3", 2, "0-2 0-3 1-2 1-3 2-3");
        realises("3 5 3 3 3 3", 2, "0-1 0-2 0-3 1-2 1-3 1-4 1-5 2-4 3-5 4-5");
        // 5 of six each: all 15 pairs.
        realises("5 5 5 5 5 5", 2,
                "0-1 0-2 0-3 0-4 0-5 1-2 1-3 1-4 1-5 2-3 2-4 2-5 3-4 3-5 4-5");
        // 0 takes 1 to 4; 5 takes 6, 7, 1 and 2; 3 takes 4, 6 and 7; 1 takes 2 and 4; 6 takes 7
        // and 2; 4 takes 7.
        realises("4 4 4 4 4 4 4 4", 2,
                "0-1 0-2 0-3 0-4 1-2 1-4 1-5 2-5 2-6 3-4 3-6 3-7 4-7 5-6 5-7 6-7");
    }

    // ---- promise 39

    private static void promise39() {
        Sentence.test("Promise 39",
                "The graph becomes the realisation of its degrees in a mode; the mode itself"
                        + " stays.",
                EditBoundaries::modeStays);
        Sentence.test("Promise 39", "- `mode`: 0 to 2", EditBoundaries::modesOfRealise);
        Sentence.test("Promise 39", "Returns the number of defects then.",
                EditBoundaries::defectsOfRealisations);
        Sentence.test("Promise 39", "Throws `IllegalArgumentException` if mode is out of range",
                () -> Refused.outside("mode", Texts.ARGUMENT, Texts.text(2, 0, "0-1", "1-1"), 0, 2,
                        (x, mode) -> x.realise(mode)));
        Sentence.test("Promise 39", "Throws `IllegalStateException` if it is not possible",
                EditBoundaries::noRealisation);
    }

    private static void modeStays() {
        for (int mode = 0; mode <= 2; mode++) {
            for (int asked = 0; asked <= 2; asked++) {
                SwitchGraphs x = Texts.made(4, mode, "0-0 1-1 2-2 3-3", "0-1 3-3");
                x.realise(asked);
                Check.is("mode", x.mode(), mode);
                Check.is("target", Texts.target(x), "0-1 3-3");
                Check.is("vertices", x.vertices(), 4);
                String[] due = {"0-0 1-1 2-2 3-3", "0-1x2 2-3x2", "0-1 0-2 1-3 2-3"};
                Check.is("graph", Texts.graph(x), due[asked]);
            }
        }
    }

    private static void modesOfRealise() {
        Check.throwing("-1", Texts.ARGUMENT, () -> of(2, "0-1x2").realise(-1));
        Check.is("0", of(2, "0-1x2").realise(0), 2);
        Check.is("1", of(2, "0-1x2").realise(1), 1);
        Check.throwing("2", Texts.STATE, () -> of(2, "0-1x2").realise(2));
        Check.is("2", of(2, "0-1").realise(2), 0);
        Check.throwing("3", Texts.ARGUMENT, () -> of(2, "0-1x2").realise(3));
    }

    private static void defectsOfRealisations() {
        Check.is("none", of(8, "").realise(0), 0);
        Check.is("16 loops", of(1, "0-0x16").realise(0), 16);
        Check.is("15 loops", of(2, "0-0x15 0-1").realise(0), 15);
        Check.is("16 edges", of(2, "0-0x8 1-1x8").realise(1), 15);
        Check.is("without defects", of(4, "0-0 1-1 2-2 3-3").realise(2), 0);
        Check.is("two in the mode 1", of(4, "0-0 1-1 2-2 3-3").realise(1), 2);
        Check.is("four in the mode 0", of(4, "0-1 1-2 2-3 0-3").realise(0), 4);
    }

    private static void noRealisation() {
        Check.passing("3 of 3", () -> Texts.of("degrees 3 1 1 1;").realise(1));
        Refused.call("4 of 2", Texts.STATE, "degrees 4 1 1;", x -> x.realise(1));
        Refused.call("2 of 0", Texts.STATE, "degrees 2;mode 2;", x -> x.realise(1));
        Check.passing("2 by itself in the mode 0", () -> Texts.of("degrees 2;").realise(0));
        Check.passing("all slacks are 0", () -> Texts.of("degrees 3 3 3 3;").realise(2));
        Refused.call("a slack of -1", Texts.STATE, "degrees 3 3 3 1;", x -> x.realise(2));
        Refused.call("a first slack of -1", Texts.STATE, "degrees 2 2;", x -> x.realise(2));
        Check.passing("which is no matter in the mode 1",
                () -> Texts.of("degrees 3 3 3 1;").realise(1));
    }

    // ---- promise 40

    private static void promise40() {
        Sentence.test("Promise 40", "Does the first switches of the path.",
                EditBoundaries::firstSwitches);
        Sentence.test("Promise 40",
                "- `many`: 0 to 16; if the path is shorter, all of it is done",
                EditBoundaries::fewestAndMostSwitches);
        Sentence.test("Promise 40", "Returns the difference then.",
                EditBoundaries::differenceBehindFollow);
        Sentence.test("Promise 40", "Throws `IllegalArgumentException` if many is out of range",
                EditBoundaries::manyOutOfRange);
        Sentence.test("Promise 40",
                "Throws `IllegalStateException` if the degrees are not the same",
                EditBoundaries::followsOfOtherDegrees);
    }

    private static void follows(String text, int many, int difference, String due) {
        SwitchGraphs x = Texts.of(text);
        String target = Texts.target(x);
        Check.is("difference", x.follow(many), difference);
        Check.is("follow(" + many + ")", Texts.graph(x), due);
        Check.is("the target stays", Texts.target(x), target);
    }

    private static void firstSwitches() {
        follows(THREE, 0, 3, "0-1 2-3 4-5");
        follows(THREE, 1, 2, "0-3 1-2 4-5");
        follows(THREE, 2, 0, "0-3 1-4 2-5");
        SwitchGraphs x = Texts.of(THREE);
        x.follow(1);
        Check.is("the next one by another call", x.follow(1), 0);
        Check.is("the target is reached", Texts.graph(x), "0-3 1-4 2-5");
        Check.is("the mode stays", x.mode(), 1);
        // The mode 2 would refuse this one.
        follows(Texts.text(3, 2, "0-1 0-2", "0-0 1-2"), 1, 0, "0-0 1-2");
    }

    private static void fewestAndMostSwitches() {
        follows(THREE, 3, 0, "0-3 1-4 2-5");
        follows(THREE, 15, 0, "0-3 1-4 2-5");
        follows(THREE, 16, 0, "0-3 1-4 2-5");
        follows("", 0, 0, "");
        follows("", 16, 0, "");
        SwitchGraphs x = Texts.of(LONGEST);
        Check.is("14 of 15", x.follow(14), 2);
        Check.is("one is left", x.pathLength(), 1);
        Check.is("all 15", Texts.of(LONGEST).follow(15), 0);
        Check.is("all 15 of 16", Texts.of(LONGEST).follow(16), 0);
        SwitchGraphs behind = Texts.of(LONGEST);
        behind.follow(16);
        Check.is("the target is reached", Texts.graph(behind), Texts.target(behind));
        // A path that is shorter than the one before it.
        SwitchGraphs shorter = Texts.of(LONGEST);
        shorter.follow(1);
        Check.is("all 14 of 16", shorter.follow(16), 0);
        Check.is("the target is reached", Texts.graph(shorter), Texts.target(shorter));
        Check.is("none of 16", shorter.follow(16), 0);
        Check.is("it is not left", Texts.graph(shorter), Texts.target(shorter));
    }

    private static void differenceBehindFollow() {
        Check.is("of none", new SwitchGraphs().follow(0), 0);
        Check.is("16", Texts.of(LONGEST).follow(0), 16);
        Check.is("15", Texts.of(LONGEST).follow(1), 15);
        Check.is("two by each", Texts.made(2, 0, "0-0x8 1-1x8", "0-1x16").follow(7), 2);
        Check.is("two by each, all", Texts.made(2, 0, "0-0x8 1-1x8", "0-1x16").follow(8), 0);
        SwitchGraphs x = Texts.of(LONGEST);
        int before = 16;
        for (int step = 1; step <= 15; step++) {
            int difference = x.follow(1);
            Check.is("less than before", difference, step < 15 ? before - 1 : 0);
            Check.is("the difference", x.difference(), difference);
            before = difference;
        }
    }

    private static void manyOutOfRange() {
        Refused.outside("many", Texts.ARGUMENT, THREE, 0, 16, (x, many) -> x.follow(many));
        Refused.call("-1 of none", Texts.ARGUMENT, "", x -> x.follow(-1));
        Refused.call("17 of none", Texts.ARGUMENT, "", x -> x.follow(17));
        Refused.call("17 of other degrees", Texts.ARGUMENT, UNLIKE, x -> x.follow(17));
    }

    private static void followsOfOtherDegrees() {
        int[] all = {0, 1, 16};
        for (int many : all) {
            Refused.call("follow(" + many + ")", Texts.STATE, UNLIKE, x -> x.follow(many));
            Refused.call("one edge more", Texts.STATE, Texts.text(2, 0, "0-1x2", "0-1"),
                    x -> x.follow(many));
            Refused.call("the last degrees", Texts.STATE, Texts.text(8, 0, "0-7", "0-6"),
                    x -> x.follow(many));
        }
        Check.is("the same", Texts.made(8, 0, "0-7", "0-7").follow(1), 0);
    }

    // ---- promise 41

    private static void promise41() {
        Sentence.test("Promise 41",
                "Connects the graph: again and again, the first switch of the list (of the present"
                        + " mode) behind which the number of components that have edges is smaller"
                        + " is done, as long as there is one.",
                EditBoundaries::connectsAsLongAsItCan);
        Sentence.test("Promise 41", "Returns the number of components that have edges then.",
                EditBoundaries::componentsWithEdges);
    }

    private static void connects(int vertices, int mode, String graph, int left, String due) {
        SwitchGraphs x = Texts.made(vertices, mode, graph, "0-0");
        Check.is("components of " + graph, x.connect(), left);
        Check.is("connected: " + graph, Texts.graph(x), due);
        Check.is("the target stays", Texts.target(x), "0-0");
        Check.is("the mode stays", x.mode(), mode);
    }

    private static void connectsAsLongAsItCan() {
        // None to do, one, and as many as there can be.
        connects(4, 0, "0-1 1-2", 1, "0-1 1-2");
        connects(3, 0, "0-0 1-2", 1, "0-1 0-2");
        connects(4, 0, "0-1x2 2-3x2", 1, "0-1 0-2 1-3 2-3");
        connects(8, 0, "0-0 1-1 2-2 3-3 4-4 5-5 6-6 7-7", 1,
                "0-6 0-7 1-2 1-3 2-4 3-5 4-6 5-7");
        // The first of two that connect; the ones before it do not.
        connects(7, 0, "0-1 0-2 1-2 3-4 3-5 4-5", 1, "0-2 0-3 1-2 1-4 3-5 4-5");
        // Two trees: no switch connects them.
        connects(4, 0, "0-1 2-3", 2, "0-1 2-3");
        connects(8, 0, "0-1 2-3 4-5 6-7", 4, "0-1 2-3 4-5 6-7");
        // Two loops may become two edges, but not in the mode 2.
        connects(2, 0, "0-0 1-1", 1, "0-1x2");
        connects(2, 1, "0-0 1-1", 1, "0-1x2");
        connects(2, 2, "0-0 1-1", 2, "0-0 1-1");
        connects(3, 2, "0-0 1-2", 1, "0-1 0-2");
        // Three loops: 0-1x2 and 2-2 in between.
        connects(3, 1, "0-0 1-1 2-2", 1, "0-1 0-2 1-2");
    }

    private static void componentsWithEdges() {
        SwitchGraphs shorter = of(2, "0-0 1-1");
        Check.is("a list of one", shorter.switches(), 1);
        shorter.setMode(2);
        Check.is("a list of none", shorter.connect(), 2);
        Check.is("its switch is not done", Texts.graph(shorter), "0-0 1-1");
        connects(8, 0, "", 0, "");
        connects(8, 0, "7-7", 1, "7-7");
        connects(8, 0, "6-7", 1, "6-7");
        connects(8, 2, "6-6 7-7", 2, "6-6 7-7");
        connects(8, 0, "0-1 6-7", 2, "0-1 6-7");
        connects(8, 2, "0-0 1-1 2-2 3-3 4-4 5-5 6-6 7-7", 8, "0-0 1-1 2-2 3-3 4-4 5-5 6-6 7-7");
    }

    // ---- promise 42

    private static void promise42() {
        Sentence.test("Promise 42",
                "Simplifies the graph: again and again, of all switches that are possible in the"
                        + " mode 0 (in the order of the list of that mode) the first one behind"
                        + " which the number of defects is smallest is done, as long as this number"
                        + " is smaller than before.",
                EditBoundaries::simplifiesAsLongAsItCan);
        Sentence.test("Promise 42", "Returns the number of defects then.",
                EditBoundaries::defectsLeft);
    }

    private static void simplifies(int vertices, int mode, String graph, int left, String due) {
        SwitchGraphs x = Texts.made(vertices, mode, graph, "0-0");
        Check.is("defects of " + graph, x.simplify(), left);
        Check.is("simplified: " + graph, Texts.graph(x), due);
        Check.is("the target stays", Texts.target(x), "0-0");
        Check.is("the mode stays", x.mode(), mode);
    }

    private static void simplifiesAsLongAsItCan() {
        for (int mode = 0; mode <= 2; mode++) {
            // No switch, one that leaves as many defects, one that leaves less, two of them.
            simplifies(4, mode, "0-1 2-3", 0, "0-1 2-3");
            simplifies(3, mode, "0-1x2 0-2", 1, "0-1x2 0-2");
            simplifies(3, mode, "0-0 1-2", 0, "0-1 0-2");
            simplifies(2, mode, "0-0 1-1", 1, "0-1x2");
            simplifies(3, mode, "0-0 1-1 2-2", 0, "0-1 0-2 1-2");
            // The first of those with fewest defects, not of those with fewer.
            simplifies(4, mode, "0-0 1-1 2-3x2", 0, "0-1 0-3 1-2 2-3");
            // A loop for two edges, each of which was one too many.
            simplifies(3, mode, "0-1x2 0-2x2", 1, "0-0 0-1 0-2 1-2");
            // The first of two that leave as few.
            simplifies(4, mode, "0-1x2 2-3x2", 0, "0-1 0-2 1-3 2-3");
        }
    }

    private static void defectsLeft() {
        SwitchGraphs shorter = of(2, "0-0 1-1");
        Check.is("a list of one", shorter.switches(), 1);
        shorter.removeEdge(1, 1);
        Check.is("a list of none", shorter.simplify(), 1);
        Check.is("its switch is not done", Texts.graph(shorter), "0-0");
        simplifies(8, 0, "", 0, "");
        simplifies(1, 0, "0-0x16", 16, "0-0x16");
        simplifies(2, 0, "0-1x16", 15, "0-1x16");
        // Two loops for the first two edges leave one defect less, for the next two as many.
        simplifies(2, 0, "0-0x8 1-1x8", 15, "0-0x7 0-1x2 1-1x7");
        simplifies(2, 0, "0-0x7 0-1x2 1-1x7", 15, "0-0x7 0-1x2 1-1x7");
        // This takes 15 switches, each of which leaves one defect less.
        SwitchGraphs x = of(8, "0-1 1-1x3 2-2x2 3-3x3 4-4 5-5x2 6-6x2 7-7x2");
        Check.is("before", x.defects(), 15);
        Check.is("15 defects less", x.simplify(), 0);
        Check.is("simple", x.isSimple(), true);
        Check.is("one edit", x.undo(), 0);
        Check.is("undone", x.defects(), 15);
    }

    // ---- promises 43 to 45

    private static void promises43And44() {
        Sentence.test("Promise 43", "Exchanges the graph and the target.",
                EditBoundaries::exchanges);
        Sentence.test("Promise 43", "@return the difference then",
                EditBoundaries::differenceBehindExchange);
        Sentence.test("Promise 44", "The target becomes like the graph.", EditBoundaries::copies);
        Sentence.test("Promise 44", "@return what the difference was before",
                EditBoundaries::differenceBeforeCopy);
    }

    private static void exchanges() {
        SwitchGraphs x = Texts.made(8, 1, "0-0 6-7x3", "7-7x16");
        x.exchange();
        Check.is("graph", Texts.graph(x), "7-7x16");
        Check.is("target", Texts.target(x), "0-0 6-7x3");
        Check.is("edges", x.edges(false), 16);
        Check.is("edges of the target", x.edges(true), 4);
        Check.is("mode", x.mode(), 1);
        x.removeEdge(7, 7);
        x.exchange();
        Check.is("graph again", Texts.graph(x), "0-0 6-7x3");
        Check.is("target again", Texts.target(x), "7-7x15");
        SwitchGraphs empty = new SwitchGraphs();
        Check.is("nothing for nothing", empty.exchange(), 0);
    }

    private static void differenceBehindExchange() {
        Check.is("0 before, 0 then", Texts.made(2, 0, "0-1", "0-1").exchange(), 0);
        Check.is("16 before, 0 then", Texts.made(2, 0, "0-1x16", "").exchange(), 0);
        Check.is("0 before, 16 then", Texts.made(2, 0, "", "0-1x16").exchange(), 16);
        Check.is("3 before, 1 then", Texts.made(2, 0, "0-1x3", "1-1").exchange(), 1);
    }

    private static void copies() {
        SwitchGraphs x = Texts.made(8, 2, "0-0 6-7x3", "7-7x16");
        x.copyToTarget();
        Check.is("target", Texts.target(x), "0-0 6-7x3");
        Check.is("graph", Texts.graph(x), "0-0 6-7x3");
        Check.is("mode", x.mode(), 2);
        Check.is("difference", x.difference(), 0);
        x.addEdge(0, 7);
        Check.is("the target is another graph", Texts.target(x), "0-0 6-7x3");
        SwitchGraphs none = Texts.made(2, 0, "", "0-1x16");
        none.copyToTarget();
        Check.is("no edges", none.edges(true), 0);
    }

    private static void differenceBeforeCopy() {
        SwitchGraphs x = Texts.made(2, 0, "0-1x16", "");
        Check.is("16", x.copyToTarget(), 16);
        Check.is("0", x.copyToTarget(), 0);
        Check.is("0 with more in the target", Texts.made(2, 0, "", "0-1").copyToTarget(), 0);
        Check.is("1", Texts.made(2, 0, "0-1x2", "0-1").copyToTarget(), 1);
    }

    private static void promise45() {
        Sentence.test("Promise 45", "Sets the mode; the graph stays.",
                EditBoundaries::graphStaysInAnyMode);
        Sentence.test("Promise 45", "- `mode`: 0 to 2", EditBoundaries::modesToSet);
        Sentence.test("Promise 45", "Returns the previous mode.", EditBoundaries::previousModes);
        Sentence.test("Promise 45", "Throws `IllegalArgumentException` if mode is out of range",
                () -> Refused.outside("mode", Texts.ARGUMENT, Texts.text(2, 1, "0-1", "1-1"), 0, 2,
                        (x, mode) -> x.setMode(mode)));
    }

    private static void graphStaysInAnyMode() {
        SwitchGraphs x = Texts.made(2, 0, "0-0x2 0-1x3", "1-1x2");
        for (int mode = 2; mode >= 0; mode--) {
            x.setMode(mode);
            Check.is("mode", x.mode(), mode);
            Check.is("graph", Texts.graph(x), "0-0x2 0-1x3");
            Check.is("target", Texts.target(x), "1-1x2");
        }
    }

    private static void modesToSet() {
        SwitchGraphs x = new SwitchGraphs();
        Check.throwing("-1", Texts.ARGUMENT, () -> x.setMode(-1));
        for (int mode = 0; mode <= 2; mode++) {
            x.setMode(mode);
            Check.is("mode", x.mode(), mode);
        }
        Check.throwing("3", Texts.ARGUMENT, () -> x.setMode(3));
        Check.is("the last one stays", x.mode(), 2);
    }

    private static void previousModes() {
        SwitchGraphs x = new SwitchGraphs();
        int previous = 0;
        int[] modes = {0, 1, 1, 2, 2, 0, 2, 1, 0};
        for (int mode : modes) {
            Check.is("before " + mode, x.setMode(mode), previous);
            previous = mode;
        }
        Check.is("of a text", Texts.of("vertices 1;mode 2;").setMode(0), 2);
    }
}
