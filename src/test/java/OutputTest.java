/** Promises 47 and 48: write, written. */
public final class OutputTest {
    public static void main(String[] args) {
        promise47();
        promise48();
        Check.end();
    }

    private static void promise47() {
        SwitchGraphs x = Texts.of("vertices 3; edge 2 1; edge 1 0 3; edge 0 0; target 2 2 9;"
                + "target 2 2 7;");
        Check.is("the example", Texts.graph(x), "0-0 0-1x3 1-2");
        Check.is("its length", x.write(false), 13);
        Check.is("the target", Texts.target(x), "2-2x16");
        Check.is("its length", x.write(true), 6);
        Check.is("nothing", new SwitchGraphs().write(false), 0);
        SwitchGraphs most = Texts.of("vertices 8; edge 0 1; edge 0 2; edge 0 3; edge 0 4; edge 0 5;"
                + "edge 0 6; edge 0 7; edge 1 2; edge 1 3; edge 1 4; edge 1 5; edge 1 6; edge 1 7;"
                + "edge 2 3; edge 2 4; edge 7 7;");
        Check.is("16 pairs", Texts.graph(most), "0-1 0-2 0-3 0-4 0-5 0-6 0-7 1-2 1-3 1-4 1-5 1-6"
                + " 1-7 2-3 2-4 7-7");
        Check.is("ten", Texts.graph(Texts.of("vertices 1; edge 0 0 9; edge 0 0;")), "0-0x10");
        Check.is("nine", Texts.graph(Texts.of("vertices 1; edge 0 0 9;")), "0-0x9");
    }

    private static void promise48() {
        SwitchGraphs x = new SwitchGraphs();
        Check.throwing("nothing was written", Texts.INDEX, () -> x.written(0));
        Texts.load(x, "vertices 2; edge 0 1 2; edge 1 1;");
        Check.is("length", x.write(false), 9);
        Check.is("first", x.written(0), '0');
        Check.is("dash", x.written(1), '-');
        Check.is("times", x.written(3), 'x');
        Check.is("space", x.written(5), ' ');
        Check.is("last", x.written(8), '1');
        Check.throwing("behind", Texts.INDEX, () -> x.written(9));
        Check.throwing("before", Texts.INDEX, () -> x.written(-1));
        x.removeEdge(1, 1);
        x.undo();
        Texts.load(x, "vertices 1;");
        Check.is("stays until the next write", x.written(8), '1');
        Check.is("nothing to write", x.write(true), 0);
        Check.throwing("in place of what was there", Texts.INDEX, () -> x.written(0));
    }
}
