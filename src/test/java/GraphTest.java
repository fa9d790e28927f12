/** Promises 6 to 15: what a graph has. */
public final class GraphTest {
    private static final String TEXT =
            "vertices 5; edge 0 1 2; edge 1 2; edge 2 0 3; edge 2 3; edge 3 3 2; target 4 3; mode 1;";

    public static void main(String[] args) {
        SwitchGraphs x = Texts.of(TEXT);
        promises6To8(x);
        promise9(x);
        promise10(x);
        promises11To13(x);
        promise14(x);
        promise15();
        Check.end();
    }

    private static void promises6To8(SwitchGraphs x) {
        Check.is("vertices", x.vertices(), 5);
        Check.is("mode", x.mode(), 1);
        Check.is("edges", x.edges(false), 9);
        Check.is("edges of target", x.edges(true), 1);
        SwitchGraphs most = Texts.of("vertices 8; mode 2; target 7 7 9; target 6 7 7;");
        Check.is("8 vertices", most.vertices(), 8);
        Check.is("mode 2", most.mode(), 2);
        Check.is("16 edges", most.edges(true), 16);
        Check.is("no edges", most.edges(false), 0);
    }

    private static void promise9(SwitchGraphs x) {
        Check.is("0-2", x.times(0, 2, false), 3);
        Check.is("2-0", x.times(2, 0, false), 3);
        Check.is("0-3", x.times(0, 3, false), 0);
        Check.is("3-3", x.times(3, 3, false), 2);
        Check.is("0-0", x.times(0, 0, false), 0);
        Check.is("3-4 of target", x.times(3, 4, true), 1);
        Check.is("0-2 of target", x.times(0, 2, true), 0);
        Check.throwing("5-0", Texts.INDEX, () -> x.times(5, 0, false));
        Check.throwing("0-5", Texts.INDEX, () -> x.times(0, 5, true));
        Check.throwing("-1-0", Texts.INDEX, () -> x.times(-1, 0, false));
        Check.throwing("0--1", Texts.INDEX, () -> x.times(0, Integer.MIN_VALUE, false));
        Check.throwing("huge", Texts.INDEX, () -> x.times(Integer.MAX_VALUE, 0, false));
    }

    private static void promise10(SwitchGraphs x) {
        int[] degrees = {5, 3, 5, 5, 0};
        int[] targetDegrees = {0, 0, 0, 1, 1};
        for (int v = 0; v < 5; v++) {
            Check.is("degree " + v, x.degree(v, false), degrees[v]);
            Check.is("degree in target " + v, x.degree(v, true), targetDegrees[v]);
        }
        Check.throwing("degree 5", Texts.INDEX, () -> x.degree(5, false));
        Check.throwing("degree 8", Texts.INDEX, () -> x.degree(8, true));
        Check.throwing("degree -1", Texts.INDEX, () -> x.degree(-1, true));
    }

    private static void promises11To13(SwitchGraphs x) {
        Check.is("loops", x.loops(), 2);
        Check.is("defects", x.defects(), 5);
        Check.is("not simple", x.isSimple(), false);
        Check.is("a loop is not simple", Texts.of("vertices 1; edge 0 0;").isSimple(), false);
        Check.is("a loop is a defect", Texts.of("vertices 1; edge 0 0;").defects(), 1);
        Check.is("two edges are not simple", Texts.of("vertices 2; edge 0 1 2;").isSimple(), false);
        Check.is("a triangle is", Texts.of("vertices 3; edge 0 1; edge 1 2; edge 2 0;").isSimple(),
                true);
        Check.is("the target does not count", Texts.of("vertices 1; target 0 0;").isSimple(), true);
        Check.is("nor its loops", Texts.of("vertices 1; target 0 0;").loops(), 0);
    }

    private static void promise14(SwitchGraphs x) {
        int[] neighbours = {2, 2, 3, 1, 0};
        for (int v = 0; v < 5; v++) {
            Check.is("neighbours " + v, x.neighbours(v), neighbours[v]);
        }
        Check.throwing("neighbours 5", Texts.INDEX, () -> x.neighbours(5));
        Check.throwing("neighbours -1", Texts.INDEX, () -> x.neighbours(-1));
    }

    private static void promise15() {
        Check.is("one triangle", Texts.of(TEXT).triangles(), 1);
        Check.is("four triangles", Texts.of("vertices 5; edge 0 1; edge 0 2 9; edge 0 4; edge 1 2;"
                + "edge 1 4; edge 2 4; edge 3 3;").triangles(), 4);
        Check.is("a loop and two edges are none",
                Texts.of("vertices 2; edge 0 0; edge 0 1 2; edge 1 1;").triangles(), 0);
        Check.is("a square has none", Texts.of("vertices 4; edge 0 1; edge 1 2; edge 2 3; edge 3 0;")
                .triangles(), 0);
    }
}
