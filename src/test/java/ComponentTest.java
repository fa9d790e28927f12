/** Promises 16 to 21: components, bridges and ways. */
public final class ComponentTest {
    private static final String TEXT =
            "vertices 7; edge 5 1; edge 1 3 2; edge 4 4; edge 5 0; edge 2 6; target 0 2;";

    public static void main(String[] args) {
        SwitchGraphs x = Texts.of(TEXT);
        promises16And17(x);
        promise18();
        promise19(x);
        promise20(x);
        promise21(x);
        Check.end();
    }

    private static void promises16And17(SwitchGraphs x) {
        Check.is("components", x.components(), 3);
        int[] components = {0, 0, 1, 0, 2, 0, 1};
        for (int v = 0; v < 7; v++) {
            Check.is("component " + v, x.component(v), components[v]);
        }
        Check.throwing("component 7", Texts.INDEX, () -> x.component(7));
        Check.throwing("component -1", Texts.INDEX, () -> x.component(-1));
        Check.is("no edges", Texts.of("vertices 8;").components(), 8);
        Check.is("their components", Texts.of("vertices 8;").component(7), 7);
        Check.is("late join", Texts.of("vertices 6; edge 0 5; edge 1 4; edge 2 3; edge 4 5;")
                .component(1), 0);
    }

    private static void promise18() {
        Check.is("three parts", Texts.of(TEXT).isConnected(), false);
        Check.is("no edges", Texts.of("vertices 8;").isConnected(), true);
        Check.is("one part and vertices without edges",
                Texts.of("vertices 5; edge 1 3; edge 3 3;").isConnected(), true);
        Check.is("a loop apart", Texts.of("vertices 3; edge 0 1; edge 2 2;").isConnected(), false);
        Check.is("one loop", Texts.of("vertices 3; edge 2 2;").isConnected(), true);
    }

    private static void promise19(SwitchGraphs x) {
        Check.is("1-5", x.isBridge(1, 5), true);
        Check.is("5-1", x.isBridge(5, 1), true);
        Check.is("1-3 twice", x.isBridge(1, 3), false);
        Check.is("loop", x.isBridge(4, 4), false);
        Check.is("2-6", x.isBridge(2, 6), true);
        Check.is("still there", x.times(2, 6, false), 1);
        Check.is("of a ring", Texts.of("vertices 3; edge 0 1; edge 1 2; edge 2 0;").isBridge(2, 0),
                false);
        Check.throwing("no edge", Texts.MISSING, () -> x.isBridge(0, 1));
        Check.throwing("only in the target", Texts.MISSING, () -> x.isBridge(0, 2));
        Check.throwing("no loop", Texts.MISSING, () -> x.isBridge(0, 0));
        Check.throwing("no vertex", Texts.INDEX, () -> x.isBridge(0, 7));
        Check.throwing("no other vertex", Texts.INDEX, () -> x.isBridge(-1, 0));
    }

    private static void promise20(SwitchGraphs x) {
        Check.is("bridges", x.bridges(), 3);
        Check.is("graph stays", Texts.graph(x), "0-5 1-3x2 1-5 2-6 4-4");
        Check.is("ring with a tail",
                Texts.of("vertices 4; edge 0 1; edge 1 2; edge 2 0; edge 2 3;").bridges(), 1);
        Check.is("none", Texts.of("vertices 4; edge 0 0 3; edge 1 2 2;").bridges(), 0);
    }

    private static void promise21(SwitchGraphs x) {
        Check.is("0 to 3", x.way(0, 3), 3);
        Check.is("3 to 0", x.way(3, 0), 3);
        Check.is("0 to 0", x.way(0, 0), 0);
        Check.is("4 to 4", x.way(4, 4), 0);
        Check.is("0 to 2", x.way(0, 2), SwitchGraphs.NONE);
        Check.is("shorter of two", Texts.of("vertices 5; edge 0 1; edge 1 2; edge 2 3; edge 0 4;"
                + "edge 4 3;").way(0, 3), 2);
        Check.is("longest", Texts.of("vertices 8; edge 0 7; edge 7 1; edge 1 6; edge 6 2; edge 2 5;"
                + "edge 5 3; edge 3 4;").way(0, 4), 7);
        Check.throwing("from 7", Texts.INDEX, () -> x.way(7, 0));
        Check.throwing("to 7", Texts.INDEX, () -> x.way(0, 7));
        Check.throwing("to -1", Texts.INDEX, () -> x.way(0, -1));
    }
}
