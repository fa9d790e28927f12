/** Promises 1 to 5: a new object, feed, load, errorKind, errorPosition. */
public final class TextTest {
    private static final String FULL_GRAPH = "vertices 2;edge 0 0 9;edge 0 1 7;";

    public static void main(String[] args) {
        promise1();
        promise2();
        promise3();
        promise4And5();
        errorsOfStatements();
        errorsOfRanges();
        errorsOfDegrees();
        errorsOfTooManyEdges();
        Check.end();
    }

    private static void promise1() {
        SwitchGraphs x = new SwitchGraphs();
        Check.is("vertices", x.vertices(), 1);
        Check.is("mode", x.mode(), 0);
        Check.is("edges", x.edges(false), 0);
        Check.is("edges of target", x.edges(true), 0);
        Check.is("no error", x.errorKind(), 0);
        Check.is("no edit", x.undo(), SwitchGraphs.NONE);
        Check.throwing("buffer is empty", Texts.ARGUMENT, () -> x.load(1));
        Check.is("NONE", SwitchGraphs.NONE, -1);
        Check.is("FULL", SwitchGraphs.FULL, -2);
        Check.is("BAD_TEXT", SwitchGraphs.BAD_TEXT, -3);
    }

    private static void promise2() {
        SwitchGraphs x = new SwitchGraphs();
        // "vert" "ices" " 3; " and blanks: the most significant byte first.
        Check.is("feed", x.feed(0x76657274, 0x69636573, 0x20333b20, 0x20202020, 0x20202020), 20);
        Check.is("read in order", x.load(20), 0);
        Check.is("vertices", x.vertices(), 3);
        for (int k = 1; k <= 20; k++) {
            Check.is("feed " + k, x.feed(0x20202020, 0x20202020, 0x20202020, 0x20202020,
                    k == 20 ? 0x2020203b : 0x20202020), 20 * k);
        }
        Check.is("full", x.feed(0, 0, 0, 0, 0), SwitchGraphs.FULL);
        Check.is("full again", x.feed(0, 0, 0, 0, 0), SwitchGraphs.FULL);
        Check.is("nothing was appended", x.load(400), SwitchGraphs.BAD_TEXT);
        Check.is("the last byte is read", x.errorPosition(), 399);
        Check.is("empty behind", x.feed(0x80ffffff, 0, 0, 0, 0), 20);
        error(x, 1, 1, 0);
    }

    private static void error(SwitchGraphs x, int length, int kind, int position) {
        Check.is("bad", x.load(length), SwitchGraphs.BAD_TEXT);
        Check.is("kind", x.errorKind(), kind);
        Check.is("position", x.errorPosition(), position);
    }

    private static void promise3() {
        SwitchGraphs x = new SwitchGraphs();
        String text = "vertices 4; edge 0 1 3; edge 2 2; target 3 3; mode 1; mode 2;";
        Check.is("answer", Texts.load(x, text), 4);
        Check.is("graph", Texts.graph(x), "0-1x3 2-2");
        Check.is("target", Texts.target(x), "3-3");
        Check.is("last mode", x.mode(), 2);
        Check.is("vertices", x.vertices(), 4);
        x.addEdge(1, 1);
        Texts.feed(x, "vertices 2;;");
        Check.throwing("too long", Texts.ARGUMENT, () -> x.load(21));
        Check.throwing("negative", Texts.ARGUMENT, () -> x.load(-1));
        Check.throwing("least", Texts.ARGUMENT, () -> x.load(Integer.MIN_VALUE));
        Check.is("bytes stay", x.load(12), SwitchGraphs.BAD_TEXT);
        Check.is("graph stays", Texts.graph(x), "0-1x3 1-1 2-2");
        Check.is("target stays", Texts.target(x), "3-3");
        Check.is("mode stays", x.mode(), 2);
        Check.is("vertices stay", x.vertices(), 4);
        Check.throwing("buffer is empty", Texts.ARGUMENT, () -> x.load(1));
        Check.is("edits stay", x.undo(), 0);
        x.addEdge(1, 1);
        Check.is("a part of the buffer", loadPart(x, "vertices 5; edge", 11), 0);
        Check.throwing("all of it is gone", Texts.ARGUMENT, () -> x.load(1));
        Check.is("edits are forgotten", x.undo(), SwitchGraphs.NONE);
        Check.is("mode is 0 again", x.mode(), 0);
        Check.is("target is empty again", x.edges(true), 0);
        Check.is("empty text", x.load(0), 0);
        Check.is("one vertex", x.vertices(), 1);
        Texts.load(x, "vertices 3;");
        Check.is("blank text", Texts.load(x, " \n\n "), 0);
        Check.is("one vertex again", x.vertices(), 1);
        Check.is("blanks where they need not be",
                Texts.load(x, "\n vertices\n4 ;edge 0\n1 ; edge1 2;mode1;target0 0 02; "), 2);
        Check.is("their graph", Texts.graph(x), "0-1 1-2");
        Check.is("their target", Texts.target(x), "0-0x2");
        Check.is("degrees", Texts.load(x, "degrees 5 0 3 4 1 1; edge 1 1;"), 8);
        Check.is("their realisation", Texts.graph(x), "0-0x2 0-2 1-1 2-2 3-3x2 4-5");
        Check.is("their target has no edges", x.edges(true), 0);
        Check.is("degrees of a sum of 32", Texts.load(x, "degrees 32;"), 16);
    }

    private static int loadPart(SwitchGraphs x, String text, int length) {
        Texts.feed(x, text);
        return x.load(length);
    }

    private static void promise4And5() {
        SwitchGraphs x = new SwitchGraphs();
        Check.is("kind before", x.errorKind(), 0);
        Check.is("position before", x.errorPosition(), SwitchGraphs.NONE);
        Texts.load(x, "vertices 2; edge 0 2;");
        Check.is("kind", x.errorKind(), 3);
        Check.is("position", x.errorPosition(), 19);
        Check.throwing("no such length", Texts.ARGUMENT, () -> x.load(500));
        Check.is("kind stays", x.errorKind(), 3);
        Check.is("position stays", x.errorPosition(), 19);
        Texts.load(x, "vertices 2;");
        Check.is("kind of a legal one", x.errorKind(), 0);
        Check.is("position of a legal one", x.errorPosition(), SwitchGraphs.NONE);
    }

    private static void errorsOfStatements() {
        fault("verticess 2;", 1, 0);
        fault("vertices 100;", 1, 9);
        fault("vertices 2, edge", 1, 10);
        fault("Vertices 2;", 1, 0);
        fault("verTices 2;", 2, 0);
        fault("\tvertices 2;", 1, 0);
        fault("vertices 2;\r", 1, 11);
        fault("vertices \u00e9", 1, 9);
        fault("vertices -1;", 1, 9);
        fault("edge 0 0;", 2, 0);
        fault(";", 2, 0);
        fault("3;", 2, 0);
        fault("vertice 2;", 2, 0);
        fault("wertices 2;", 2, 0);
        fault("verticez 2;", 2, 0);
        fault("vertices2a;", 2, 9);
        fault("vertices", 2, 8);
        fault("vertices ", 2, 9);
        fault("vertices;", 2, 8);
        fault("vertices x;", 2, 9);
        fault("vertices 2", 2, 10);
        fault("vertices 2 3;", 2, 11);
        fault("vertices 2 edge 0 0;", 2, 11);
        fault("vertices 2; vertices 2;", 2, 12);
        fault("vertices 2; degrees 2;", 2, 12);
        fault("vertices 2;;", 2, 11);
        fault("vertices 2; 1;", 2, 12);
        fault("vertices 2; edges 0 1;", 2, 12);
        fault("vertices 2; edge", 2, 16);
        fault("vertices 2; edge;", 2, 16);
        fault("vertices 2; edge 0;", 2, 18);
        fault("vertices 2; edge 0 x", 2, 19);
        fault("vertices 2; edge 0 1", 2, 20);
        fault("vertices 2; edge 0 1 edge", 2, 21);
        fault("vertices 2; edge 0 1 1", 2, 22);
        fault("vertices 2; edge 0 1 1 1;", 2, 23);
        fault("vertices 2; target 0 1 1 1;", 2, 25);
        fault("vertices 2; mode;", 2, 16);
        fault("vertices 2; mode 1 1;", 2, 19);
        fault("vertices 2; mode 1", 2, 18);
    }

    private static void errorsOfRanges() {
        fault("vertices 0;", 3, 9);
        fault("vertices 9;", 3, 9);
        fault("vertices 99", 3, 9);
        fault("vertices 8; edge 8 0;", 3, 17);
        fault("vertices 8; edge 0 8;", 3, 19);
        fault("vertices 2; edge 2 9;", 3, 17);
        fault("vertices 2; target 0 2;", 3, 21);
        fault("vertices 2; edge 0 1 0;", 3, 21);
        fault("vertices 2; edge 0 1 10;", 3, 21);
        fault("vertices 2; target 0 1 10;", 3, 23);
        fault("vertices 2; mode 3;", 3, 17);
        fault("vertices 2; mode 1; mode 03", 3, 25);
        fault("degrees 33;", 3, 8);
        fault("degrees 1 1; edge 2 0;", 3, 18);
    }

    private static void errorsOfDegrees() {
        fault("degrees;", 2, 7);
        fault("degrees", 2, 7);
        fault("degrees x", 2, 8);
        fault("degrees 1 x", 2, 10);
        fault("degrees 1 1", 2, 11);
        fault("degrees 1;", 4, 9);
        fault("degrees 32 2;", 4, 12);
        fault("degrees 32 32 1 ;", 4, 16);
        fault("degrees 1 1 1 1 1 1 1 1 1;", 5, 24);
        fault("degrees 1 1 1 1 1 1 1 1 33;", 3, 24);
        fault("degrees 1 1 1 1 1 1 1 1 x;", 2, 24);
        fault("degrees 1 1 1 1 1 1 1 1 111;", 1, 24);
        fault("degrees 32 32 32 32 32 32 32 32 1", 5, 32);
    }

    private static void errorsOfTooManyEdges() {
        Texts.of(FULL_GRAPH);
        Texts.of(FULL_GRAPH + "target 0 0 9;target 1 1 7;");
        fault(FULL_GRAPH + "edge 0 0;", 5, FULL_GRAPH.length() + 8);
        fault(FULL_GRAPH + "edge 0 0 ;", 5, FULL_GRAPH.length() + 9);
        fault(FULL_GRAPH + "edge 0 0 1;", 5, FULL_GRAPH.length() + 9);
        fault(FULL_GRAPH + "edge 0 0 1", 5, FULL_GRAPH.length() + 9);
        fault(FULL_GRAPH + "edge 0 0 0;", 3, FULL_GRAPH.length() + 9);
        fault(FULL_GRAPH + "edge 0 0 10;", 3, FULL_GRAPH.length() + 9);
        fault(FULL_GRAPH + "edge 0 0 x;", 2, FULL_GRAPH.length() + 9);
        fault(FULL_GRAPH + "edge 0 0", 2, FULL_GRAPH.length() + 8);
        fault(FULL_GRAPH + "edge 0 0 ,", 1, FULL_GRAPH.length() + 9);
        fault("degrees 32; edge 0 0;", 5, 20);
        fault("degrees 30; edge 0 0 2;", 5, 21);
        fault("vertices 1;target 0 0 9;target 0 0 8;", 5, 35);
    }

    private static void fault(String text, int kind, int position) {
        SwitchGraphs x = Texts.of("vertices 6; edge 0 5;");
        Check.is("bad: " + text, Texts.load(x, text), SwitchGraphs.BAD_TEXT);
        Check.is("kind: " + text, x.errorKind(), kind);
        Check.is("position: " + text, x.errorPosition(), position);
        Check.is("vertices stay: " + text, x.vertices(), 6);
        Check.is("graph stays: " + text, Texts.graph(x), "0-5");
    }
}
