/** Promises 36 to 46: the edits, and undo. */
public final class EditTest {
    private static final String RINGS = "vertices 7; edge 0 1; edge 1 2; edge 2 0; edge 3 4;"
            + "edge 4 5; edge 5 3;";

    public static void main(String[] args) {
        promise36();
        promise37();
        promise38();
        promise39();
        promise40();
        promise41();
        promise42();
        promises43And44();
        promise45();
        promise46();
        everyEditCanBeUndone();
        failingEditsChangeNothing();
        Check.end();
    }

    private static void promise36() {
        SwitchGraphs x = Texts.of("vertices 3; edge 0 1; mode 2;");
        Check.is("second edge", x.addEdge(1, 0), 2);
        Check.is("loop", x.addEdge(2, 2), 1);
        Check.is("second loop", x.addEdge(2, 2), 2);
        Check.is("graph", Texts.graph(x), "0-1x2 2-2x2");
        Check.is("degree", x.degree(2, false), 4);
        Check.is("target stays", x.edges(true), 0);
        Check.throwing("no u", Texts.INDEX, () -> x.addEdge(3, 0));
        Check.throwing("no v", Texts.INDEX, () -> x.addEdge(0, -1));
        SwitchGraphs full = Texts.of("vertices 2; edge 0 0 9; edge 0 1 6;");
        Check.is("the 16th", full.addEdge(0, 1), 7);
        Check.throwing("a 17th", Texts.STATE, () -> full.addEdge(1, 1));
        Check.throwing("vertex first", Texts.INDEX, () -> full.addEdge(2, 1));
        Check.is("one edit", full.undo(), 0);
    }

    private static void promise37() {
        SwitchGraphs x = Texts.of("vertices 3; edge 0 1 2; edge 2 2; target 1 2;");
        Check.is("one is left", x.removeEdge(1, 0), 1);
        Check.is("none is left", x.removeEdge(0, 1), 0);
        Check.is("loop", x.removeEdge(2, 2), 0);
        Check.is("edges", x.edges(false), 0);
        Check.throwing("no edge", Texts.MISSING, () -> x.removeEdge(0, 1));
        Check.throwing("only in the target", Texts.MISSING, () -> x.removeEdge(1, 2));
        Check.throwing("no loop", Texts.MISSING, () -> x.removeEdge(2, 2));
        Check.throwing("no u", Texts.INDEX, () -> x.removeEdge(3, 0));
        Check.throwing("no v", Texts.INDEX, () -> x.removeEdge(0, -1));
        Check.is("three edits", x.undo(), 2);
    }

    private static void promise38() {
        SwitchGraphs x = Texts.of("vertices 4; edge 0 1 2; edge 2 3;");
        Check.is("defects", x.switchEdges(0, 1, 0, 1), 2);
        Check.is("graph", Texts.graph(x), "0-0 1-1 2-3");
        Check.is("loops become edges", x.switchEdges(0, 0, 3, 2), 1);
        Check.is("graph then", Texts.graph(x), "0-2 0-3 1-1");
        Check.throwing("reason 1", Texts.STATE, () -> x.switchEdges(0, 0, 2, 3));
        Check.throwing("reason 3", Texts.STATE, () -> x.switchEdges(0, 2, 3, 0));
        Check.is("reason 4 is not of the mode 0", x.reason(0, 2, 0, 3), 0);
        x.setMode(1);
        Check.throwing("reason 4", Texts.STATE, () -> x.switchEdges(0, 2, 0, 3));
        Check.throwing("vertex first", Texts.INDEX, () -> x.switchEdges(0, 0, 0, 4));
        Check.throwing("negative", Texts.INDEX, () -> x.switchEdges(-1, 0, 0, 0));
        Check.is("graph stays", Texts.graph(x), "0-2 0-3 1-1");
        Check.is("three edits", x.undo(), 2);
    }

    private static void promise39() {
        realises("degrees 5 0 3 4 1 1;", 0, "0-0x2 0-2 2-2 3-3x2 4-5", 5);
        realises("vertices 3; edge 0 1 2; edge 0 2; target 2 2;", 0, "0-0 0-2 1-1", 2);
        realises("degrees 3 2 1;", 1, "0-1x2 0-2", 1);
        // 4 lacks most, and of the others 0, then 0 again as the smallest of those that lack one.
        realises("degrees 2 1 1 0 4;", 1, "0-4x2 1-4 2-4", 1);
        realises("degrees 1 1 1 1;", 1, "0-1 2-3", 0);
        realises("degrees 3 3 1 1;", 1, "0-1x3 2-3", 2);
        // Behind the first 0-1 it is 2 and 3 that lack most.
        realises("degrees 2 2 2 2;", 1, "0-1x2 2-3x2", 2);
        realises("degrees 2 2 2 2;", 2, "0-1 0-2 1-3 2-3", 0);
        realises("degrees 1 3 2 2 0 2;", 2, "0-2 1-2 1-3 1-5 3-5", 0);
        realises("degrees 0 0;", 2, "", 0);
        SwitchGraphs x = Texts.of("degrees 3 3 1 1; mode 1;");
        Check.throwing("not simple", Texts.STATE, () -> x.realise(2));
        Check.throwing("mode 3", Texts.ARGUMENT, () -> x.realise(3));
        Check.throwing("mode -1", Texts.ARGUMENT, () -> x.realise(-1));
        Check.is("mode stays", x.mode(), 1);
        x.realise(0);
        Check.is("mode stays, too", x.mode(), 1);
        Check.throwing("no loops", Texts.STATE, () -> Texts.of("degrees 2;").realise(1));
        Check.is("target stays", targetBehindRealise(), "0-2");
    }

    private static String targetBehindRealise() {
        SwitchGraphs x = Texts.of("vertices 3; edge 0 0; target 0 2;");
        x.realise(0);
        return Texts.target(x);
    }

    private static void realises(String text, int mode, String due, int defects) {
        SwitchGraphs x = Texts.of(text);
        Check.is("defects of " + text, x.realise(mode), defects);
        Check.is("realisation in the mode " + mode + " of " + text, Texts.graph(x), due);
        Check.is("one edit", x.undo(), 0);
    }

    private static void promise40() {
        String text = "vertices 6; edge 0 1; edge 2 3; edge 4 5; target 0 3; target 1 4;"
                + "target 2 5; mode 1;";
        follows(text, 0, 3, "0-1 2-3 4-5");
        follows(text, 1, 2, "0-3 1-2 4-5");
        follows(text, 2, 0, "0-3 1-4 2-5");
        follows(text, 3, 0, "0-3 1-4 2-5");
        follows(text, 16, 0, "0-3 1-4 2-5");
        SwitchGraphs x = Texts.of("vertices 3; edge 0 1; target 1 2;");
        Check.throwing("17", Texts.ARGUMENT, () -> x.follow(17));
        Check.throwing("-1", Texts.ARGUMENT, () -> x.follow(-1));
        Check.throwing("unlike", Texts.STATE, () -> x.follow(0));
        Check.is("no edit", x.undo(), SwitchGraphs.NONE);
        // A switch that the mode 2 refuses.
        follows("vertices 3; edge 0 1; edge 0 2; target 0 0; target 1 2; mode 2;", 1, 0, "0-0 1-2");
    }

    private static void follows(String text, int many, int difference, String due) {
        SwitchGraphs x = Texts.of(text);
        Check.is("difference", x.follow(many), difference);
        Check.is("follow " + many + " in " + text, Texts.graph(x), due);
        Check.is("one edit", x.undo(), 0);
    }

    private static void promise41() {
        connects(RINGS, 1, "0-2 0-3 1-2 1-4 3-5 4-5");
        connects("vertices 5; edge 0 0; edge 1 1; edge 2 2; mode 1;", 1, "0-1 0-2 1-2");
        connects("vertices 5; edge 0 0; edge 1 1; mode 2;", 2, "0-0 1-1");
        connects("vertices 4; edge 0 1; edge 2 3;", 2, "0-1 2-3");
        connects("vertices 4; edge 1 2 2;", 1, "1-2x2");
        connects("vertices 4;", 0, "");
        connects("vertices 4; edge 3 3;", 1, "3-3");
        // In the mode 0 the loop at 0 goes into the first edge of the list.
        connects("vertices 4; edge 1 2; edge 2 3; edge 0 0;", 1, "0-1 0-2 2-3");
    }

    private static void connects(String text, int parts, String due) {
        SwitchGraphs x = Texts.of(text);
        Check.is("parts of " + text, x.connect(), parts);
        Check.is("connected " + text, Texts.graph(x), due);
        Check.is("one edit", x.undo(), 0);
    }

    private static void promise42() {
        simplifies("vertices 4; edge 0 1 2; edge 2 3 2;", 0, "0-1 0-2 1-3 2-3");
        simplifies("vertices 3; edge 0 0; edge 1 2;", 0, "0-1 0-2");
        simplifies("vertices 4; edge 0 1; edge 2 3; mode 2;", 0, "0-1 2-3");
        simplifies("vertices 1; edge 0 0 3;", 3, "0-0x3");
        // Any mode: the switch itself is of the mode 0, and leaves a defect for the next one.
        simplifies("vertices 2; edge 0 0; edge 1 1; mode 2;", 1, "0-1x2");
        simplifies("vertices 3; edge 0 0; edge 1 1; edge 2 2; mode 2;", 0, "0-1 0-2 1-2");
    }

    private static void simplifies(String text, int defects, String due) {
        SwitchGraphs x = Texts.of(text);
        Check.is("defects of " + text, x.simplify(), defects);
        Check.is("simplified " + text, Texts.graph(x), due);
        Check.is("one edit", x.undo(), 0);
    }

    private static void promises43And44() {
        SwitchGraphs x = Texts.of("vertices 3; edge 0 1 3; target 0 1; target 2 2; mode 1;");
        Check.is("difference behind", x.exchange(), 1);
        Check.is("graph", Texts.graph(x), "0-1 2-2");
        Check.is("target", Texts.target(x), "0-1x3");
        Check.is("mode", x.mode(), 1);
        Check.is("difference behind again", x.exchange(), 2);
        Check.is("difference before", x.copyToTarget(), 2);
        Check.is("target is like the graph", Texts.target(x), "0-1x3");
        Check.is("graph stays", Texts.graph(x), "0-1x3");
        x.addEdge(2, 2);
        Check.is("target is apart from the graph", Texts.target(x), "0-1x3");
        Check.is("copies again", x.copyToTarget(), 1);
        Check.is("no difference", x.copyToTarget(), 0);
    }

    private static void promise45() {
        SwitchGraphs x = Texts.of("vertices 2; edge 0 0; edge 0 1 2; mode 1;");
        Check.is("before", x.setMode(2), 1);
        Check.is("mode", x.mode(), 2);
        Check.is("graph stays", Texts.graph(x), "0-0 0-1x2");
        Check.is("the same mode", x.setMode(2), 2);
        Check.is("back", x.setMode(0), 2);
        Check.throwing("3", Texts.ARGUMENT, () -> x.setMode(3));
        Check.throwing("-1", Texts.ARGUMENT, () -> x.setMode(-1));
        Check.is("mode stays", x.mode(), 0);
        Check.is("three edits", x.undo(), 2);
    }

    private static void promise46() {
        SwitchGraphs x = new SwitchGraphs();
        Check.is("no edit", x.undo(), SwitchGraphs.NONE);
        for (int k = 1; k <= 13; k++) {
            x.addEdge(0, 0);
        }
        for (int left = 9; left >= 0; left--) {
            Check.is("left", x.undo(), left);
            Check.is("loops", x.loops(), 3 + left);
        }
        Check.is("none is left", x.undo(), SwitchGraphs.NONE);
        Check.is("three stay", x.loops(), 3);
        x.addEdge(0, 0);
        x.setMode(1);
        Check.is("undone", x.undo(), 1);
        Check.is("mode", x.mode(), 0);
        x.copyToTarget();
        Check.is("the undone edit is gone", x.undo(), 1);
        Check.is("target", x.edges(true), 0);
        Check.is("loops", x.loops(), 4);
        Texts.feed(x, "vertices 2;");
        Check.is("last one", x.undo(), 0);
        Check.is("the buffer is not undone", x.load(11), 0);
        Check.is("a load forgets", x.undo(), SwitchGraphs.NONE);
        Check.is("its vertices stay", x.vertices(), 2);
    }

    private static void everyEditCanBeUndone() {
        SwitchGraphs x = Texts.of("vertices 4; edge 0 0; edge 1 2; edge 3 3; target 0 1; target 0 2;"
                + "target 3 3; mode 1;");
        undoes(x, () -> x.addEdge(0, 1));
        undoes(x, () -> x.removeEdge(0, 0));
        undoes(x, () -> x.switchEdges(0, 0, 1, 2));
        undoes(x, () -> x.realise(1));
        undoes(x, () -> x.follow(1));
        undoes(x, () -> x.follow(0));
        undoes(x, () -> x.connect());
        undoes(x, () -> x.simplify());
        undoes(x, () -> x.exchange());
        undoes(x, () -> x.copyToTarget());
        undoes(x, () -> x.setMode(1));
        undoes(x, () -> x.setMode(2));
    }

    private static void undoes(SwitchGraphs x, Check.Call edit) {
        edit.run();
        Check.is("edit is remembered", x.undo(), 0);
        Check.is("graph is back", Texts.graph(x), "0-0 1-2 3-3");
        Check.is("target is back", Texts.target(x), "0-1 0-2 3-3");
        Check.is("mode is back", x.mode(), 1);
    }

    private static void failingEditsChangeNothing() {
        SwitchGraphs x = Texts.of("degrees 32; mode 1;");
        Check.throwing("addEdge", Texts.STATE, () -> x.addEdge(0, 0));
        Check.throwing("removeEdge", Texts.INDEX, () -> x.removeEdge(0, 1));
        Check.throwing("switchEdges", Texts.STATE, () -> x.switchEdges(0, 0, 0, 0));
        Check.throwing("realise", Texts.STATE, () -> x.realise(1));
        Check.throwing("follow", Texts.STATE, () -> x.follow(1));
        Check.throwing("setMode", Texts.ARGUMENT, () -> x.setMode(5));
        Check.is("no edit is remembered", x.undo(), SwitchGraphs.NONE);
        Check.is("graph", Texts.graph(x), "0-0x16");
        Check.is("mode", x.mode(), 1);
    }
}
