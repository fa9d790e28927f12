/** Promise 46 and what the document says of edits, at their boundaries. */
final class UndoBoundaries {
    private static final String TEXT =
            Texts.text(4, 1, "0-0 1-2 3-3", "0-1 0-2 3-3");

    private UndoBoundaries() {
    }

    static void run() {
        Sentence.test("Promise 46, ERRORS AND EDITS",
                "Edits are the methods addEdge, removeEdge, switchEdges, realise, follow, connect,"
                        + " simplify, exchange, copyToTarget and setMode.",
                UndoBoundaries::editsAndOthers);
        Sentence.test("Promise 46, ERRORS AND EDITS",
                "Every successful edit can be undone, also if it changes nothing;",
                UndoBoundaries::editsThatChangeNothing);
        Sentence.test("Promise 46, ERRORS AND EDITS",
                "undo() brings back the graph, the target and the mode, nothing else.",
                UndoBoundaries::nothingElse);
        Sentence.test("Promise 46, ERRORS AND EDITS", "At most 10 edits are remembered.",
                UndoBoundaries::tenEdits);
        Sentence.test("Promise 46, ERRORS AND EDITS", "A successful load() forgets all edits.",
                UndoBoundaries::loadForgets);
        Sentence.test("Promise 46", "Undoes the latest edit that is not undone yet.",
                UndoBoundaries::latestFirst);
        Sentence.test("Promise 46",
                "@return the number of edits that can still be undone; NONE if there is none",
                UndoBoundaries::numberOfEdits);
    }

    /** After the edit there is one to undo; undone, all is as before. */
    private static void edit(String what, String text, Refused.Call edit) {
        SwitchGraphs x = Texts.of(text);
        String before = View.graphs(x);
        edit.on(x);
        String after = View.graphs(x);
        Check.is(what + " can be undone", x.undo(), 0);
        Check.is(what + " is undone", View.graphs(x), before);
        Check.is(what + " was the only one", x.undo(), SwitchGraphs.NONE);
        edit.on(x);
        Check.is(what + " does the same again", View.graphs(x), after);
    }

    private static void editsAndOthers() {
        edit("addEdge", TEXT, x -> x.addEdge(0, 1));
        edit("removeEdge", TEXT, x -> x.removeEdge(0, 0));
        edit("switchEdges", TEXT, x -> x.switchEdges(0, 0, 1, 2));
        edit("realise", TEXT, x -> x.realise(1));
        edit("follow", TEXT, x -> x.follow(1));
        edit("connect", TEXT, x -> x.connect());
        edit("simplify", TEXT, x -> x.simplify());
        edit("exchange", TEXT, x -> x.exchange());
        edit("copyToTarget", TEXT, x -> x.copyToTarget());
        edit("setMode", TEXT, x -> x.setMode(2));
        SwitchGraphs x = Texts.of(TEXT);
        x.setMode(2);
        others(x);
        Check.is("the others are no edits", x.undo(), 0);
        others(x);
        Check.is("nor are they if there is none", x.undo(), SwitchGraphs.NONE);
    }

    private static void others(SwitchGraphs x) {
        x.feed(0, 0, 0, 0, 0);
        x.load(20);
        Check.is("vertices", x.vertices() + x.edges(false) + x.edges(true), 10);
        Check.is("loops", x.times(0, 0, false) + x.degree(0, true) + x.loops() + x.defects(), 7);
        Check.is("no neighbours", x.neighbours(0) + x.triangles() + x.component(0), 0);
        Check.is("components", x.components() + x.bridges() + x.way(1, 2), 5);
        Check.is("not connected", x.isConnected() || x.isSimple() || x.isBridge(0, 0), false);
        Check.is("sorted", x.sorted(0) + x.slack(1), 3);
        Check.is("possible", x.isPossible(0) && x.isAlike(), true);
        Check.is("mean", x.meanDegree(), 1.5);
        Check.is("switches", x.reason(0, 0, 1, 2) + x.nearest() + x.switchAt(0, 0), 0);
        Check.is("components behind", x.componentsBehind(0, 0, 1, 2), 2);
        Check.is("difference", x.difference() + x.pathLength() + x.distance(), 4);
        Check.is("path", x.path(0, 0), 0);
        Check.is("write", x.write(true) + x.write(false), 22);
        Check.is("written", x.written(0), '0');
    }

    private static void editsThatChangeNothing() {
        String like = Texts.text(2, 2, "0-1", "0-1");
        edit("realise as it is", like, x -> x.realise(2));
        edit("follow(0)", TEXT, x -> x.follow(0));
        edit("follow at the target", like, x -> x.follow(16));
        edit("connect", like, x -> x.connect());
        edit("simplify", like, x -> x.simplify());
        edit("exchange for the same", like, x -> x.exchange());
        edit("copyToTarget of the same", like, x -> x.copyToTarget());
        edit("setMode of the same", like, x -> x.setMode(2));
        edit("connect of no edges", "", x -> x.connect());
        edit("connect without a switch", Texts.text(4, 0, "0-1 2-3", ""), x -> x.connect());
        edit("simplify without a switch", "degrees 32;", x -> x.simplify());
        edit("exchange of nothing", "", x -> x.exchange());
        // The state does not change, but the number of edits does.
        SwitchGraphs x = Texts.of(like);
        x.setMode(2);
        x.connect();
        x.follow(0);
        Check.is("three", x.undo(), 2);
        Check.is("two", x.undo(), 1);
        Check.is("one", x.undo(), 0);
        Check.is("none", x.undo(), SwitchGraphs.NONE);
    }

    private static void nothingElse() {
        SwitchGraphs x = Texts.of(TEXT);
        x.setMode(2);
        x.exchange();
        x.addEdge(1, 1);
        x.write(false);
        Check.is("an error", Texts.load(x, "vertices 1; vertices"), SwitchGraphs.BAD_TEXT);
        Texts.feed(x, "vertices 2;edge 0 1;");
        String aside = View.aside(x);
        Check.is("undone", x.undo(), 2);
        Check.is("the graph is back", x.times(1, 1, false), 0);
        Check.is("the error and the output stay", View.aside(x), aside);
        Check.is("undone", x.undo(), 1);
        Check.is("the target is back", x.times(1, 2, true), 0);
        Check.is("the error and the output stay", View.aside(x), aside);
        Check.is("undone", x.undo(), 0);
        Check.is("the mode is back", x.mode(), 1);
        Check.is("the error and the output stay", View.aside(x), aside);
        Check.is("none is left", x.undo(), SwitchGraphs.NONE);
        Check.is("the error and the output stay", View.aside(x), aside);
        Check.is("the buffer stays", x.load(20), 1);
        Check.is("with its bytes", x.vertices(), 2);
    }

    private static void tenEdits() {
        int[] numbers = {1, 9, 10, 11, 12, 19, 20, 21, 25};
        for (int edits : numbers) {
            SwitchGraphs x = Texts.of("vertices 2;");
            for (int k = 1; k <= edits; k++) {
                change(x, k);
            }
            int left = Math.min(edits, 10);
            for (int k = edits - 1; k >= edits - left; k--) {
                Check.is("left of " + edits, x.undo(), k - edits + left);
                Check.is("state " + k + " of " + edits, state(x), dueState(k));
            }
            Check.is("none is left of " + edits, x.undo(), SwitchGraphs.NONE);
            Check.is("the state stays", state(x), dueState(edits - left));
            change(x, 1);
            Check.is("another one", x.undo(), 0);
            Check.is("none again", x.undo(), SwitchGraphs.NONE);
        }
        SwitchGraphs x = new SwitchGraphs();
        for (int k = 1; k <= 10; k++) {
            x.addEdge(0, 0);
        }
        x.undo();
        x.addEdge(0, 0);
        x.addEdge(0, 0);
        Check.is("an undone one is not remembered", x.undo(), 9);
        Check.is("ten loops", x.loops(), 10);
        for (int left = 8; left >= 0; left--) {
            Check.is("left", x.undo(), left);
        }
        Check.is("none", x.undo(), SwitchGraphs.NONE);
        Check.is("the first loop stays", x.loops(), 1);
    }

    /** The k-th edit: a mode, a copy or an exchange and an edge each. */
    private static void change(SwitchGraphs x, int k) {
        if (k % 3 == 0) {
            x.setMode((x.mode() + 1) % 3);
        } else if (k % 3 == 1 && x.edges(false) < 16) {
            x.addEdge(k % 2, 1);
        } else {
            x.copyToTarget();
        }
    }

    private static int state(SwitchGraphs x) {
        return 100 * x.mode() + 10 * x.edges(false) + x.edges(true);
    }

    /** Of k edits every third one sets the mode, adds an edge or copies. */
    private static int dueState(int k) {
        return 100 * (k / 3 % 3) + 10 * ((k + 2) / 3) + (k + 1) / 3;
    }

    private static void loadForgets() {
        SwitchGraphs x = Texts.of(TEXT);
        x.setMode(2);
        x.addEdge(0, 1);
        Check.throwing("a load that throws", Texts.ARGUMENT, () -> x.load(1));
        Texts.load(x, "vertices 9;");
        Texts.load(x, "vertices 2;edge 0 1;mode 3;");
        Check.is("texts that are not legal do not forget", x.undo(), 1);
        Texts.load(x, "vertices 4;");
        Check.is("a legal one does", x.undo(), SwitchGraphs.NONE);
        Check.is("and nothing is undone", x.edges(false) + x.mode(), 0);
        x.addEdge(0, 0);
        x.load(0);
        Check.is("an empty one does", x.undo(), SwitchGraphs.NONE);
        Check.is("its vertex stays", x.vertices(), 1);
        x.addEdge(0, 0);
        Check.is("an edit behind it", x.undo(), 0);
        Check.is("no other one", x.undo(), SwitchGraphs.NONE);
        for (int k = 0; k < 12; k++) {
            x.addEdge(0, 0);
        }
        x.load(0);
        Check.is("ten are forgotten", x.undo(), SwitchGraphs.NONE);
    }

    private static void latestFirst() {
        SwitchGraphs x = Texts.made(2, 0, "", "1-1");
        x.addEdge(0, 0);
        x.setMode(1);
        x.exchange();
        x.undo();
        Check.is("the exchange", Texts.graph(x), "0-0");
        Check.is("not the mode", x.mode(), 1);
        x.undo();
        Check.is("the mode", x.mode(), 0);
        Check.is("not the edge", Texts.graph(x), "0-0");
        x.copyToTarget();
        x.undo();
        Check.is("the copy, which came later", Texts.target(x), "1-1");
        Check.is("not the edge", Texts.graph(x), "0-0");
        x.undo();
        Check.is("the edge", Texts.graph(x), "");
        Check.is("none is left", x.undo(), SwitchGraphs.NONE);
    }

    private static void numberOfEdits() {
        SwitchGraphs x = new SwitchGraphs();
        Check.is("none", x.undo(), SwitchGraphs.NONE);
        Check.is("none again", x.undo(), SwitchGraphs.NONE);
        x.addEdge(0, 0);
        Check.is("one", x.undo(), 0);
        Check.is("none any more", x.undo(), SwitchGraphs.NONE);
        x.addEdge(0, 0);
        x.addEdge(0, 0);
        Check.is("two", x.undo(), 1);
        x.addEdge(0, 0);
        Check.is("two again", x.undo(), 1);
        Check.is("one", x.undo(), 0);
        Check.is("none at last", x.undo(), SwitchGraphs.NONE);
        Check.is("no loop", x.loops(), 0);
    }
}
