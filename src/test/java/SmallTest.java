import java.util.ArrayList;
import java.util.Arrays;
import java.util.List;

/**
 * All small graphs, in all modes, and all pairs of them, and all texts of a few tokens: every call
 * with every vertex and one step beyond is held against the oracle. Drawn runs (OracleTest) reach
 * further, but may miss what only a few graphs show.
 *
 * <p>As arguments: a number of vertices, the most edges of a graph, and the most edges of a pair's
 * graphs.
 */
public final class SmallTest {
    private static final int MAX_CALLS = 512;
    /** An edit, and its undo(), with all characters of two graphs of 16 edges behind each. */
    private static final int LONGEST_STEP = 280;
    private static final int[] NOTHING = {};
    /** The beginnings bring the reader to each kind of statement, and close to each limit. */
    private static final String[] BEGINNINGS = {
        "", "vertices 2;", "vertices 8;", "degrees 16 16;", "degrees 1 1 1 1 1 1 1",
        "degrees 16 16 0 0 0 0 0 0", "vertices 1;edge 0 0 9;edge 0 0 6;",
        "vertices 1;target 0 0 9;target 00 00 07;", "vertices 2;edge 0", "vertices 2;edge 0 1",
    };
    private static final String[] TOKENS = {
        "vertices", "degrees", "edge", "target", "mode", ";", "0", "1", "9", "10", "16", "33", "x",
        "abcdefghi", "123", "@",
    };

    private final int vertices;
    private final List<String> graphs = new ArrayList<>();
    private String text = "";
    private Both both = new Both();

    private SmallTest(int vertices, int edges) {
        this.vertices = vertices;
        addGraphs("", 0, edges);
    }

    public static void main(String[] args) {
        if (args.length > 0) {
            int vertices = Integer.parseInt(args[0]);
            new SmallTest(vertices, Integer.parseInt(args[1])).holdGraphs();
            new SmallTest(vertices, Integer.parseInt(args[2])).holdPairs();
        } else {
            new SmallTest(1, 4).holdGraphs();
            new SmallTest(2, 4).holdGraphs();
            new SmallTest(3, 3).holdGraphs();
            new SmallTest(4, 2).holdGraphs();
            new SmallTest(1, 3).holdPairs();
            new SmallTest(2, 4).holdPairs();
            new SmallTest(3, 3).holdPairs();
            new SmallTest(4, 2).holdPairs();
            holdTexts();
            Check.about("");
            Both.everyMethodAnswered();
        }
        Check.end();
    }

    /** Adds all graphs with up to so many more edges, each from a place on in their order. */
    private void addGraphs(String graph, int from, int edges) {
        graphs.add(graph);
        for (int place = from; edges > 0 && place < vertices * vertices; place++) {
            int u = place / vertices;
            int v = place % vertices;
            if (u <= v) {
                addGraphs(graph + (graph.isEmpty() ? "" : " ") + u + "-" + v, place, edges - 1);
            }
        }
    }

    // ---- graphs and pairs of them

    private void holdGraphs() {
        for (String graph : graphs) {
            for (int mode = 0; mode <= 2; mode++) {
                text = Texts.text(vertices, mode, graph, "");
                holdQuestions();
                holdSwitches();
                holdEdits();
            }
        }
    }

    private void holdPairs() {
        for (String graph : graphs) {
            for (String target : graphs) {
                text = Texts.text(vertices, 0, graph, target);
                holdPath();
            }
        }
    }

    /** Goes on with new objects that have read the text. */
    private void begin() {
        Check.is("calls of one object", both.calls().size() <= MAX_CALLS, true);
        Check.about(text);
        both = new Both();
        both.load(text);
    }

    private void ask(String name, int... parameters) {
        both.compare(name, parameters);
    }

    private void holdQuestions() {
        begin();
        for (String name : Both.METHODS.keySet()) {
            if (Both.METHODS.get(name).getParameterCount() == 0 && !isEdit(name)) {
                ask(name, NOTHING);
            }
        }
        for (int u = -1; u <= vertices; u++) {
            ask("degree", u, 0);
            ask("neighbours", u);
            ask("component", u);
            ask("sorted", u);
            ask("slack", u);
            ask("slack", u + 1);
            for (int v = -1; v <= vertices; v++) {
                ask("times", u, v, 0);
                ask("isBridge", u, v);
                ask("way", u, v);
            }
        }
        for (int mode = -1; mode <= 3; mode++) {
            ask("isPossible", mode);
        }
    }

    private static boolean isEdit(String name) {
        return Arrays.asList("connect", "simplify", "exchange", "copyToTarget", "undo")
                .contains(name);
    }

    private void holdSwitches() {
        begin();
        int switches = both.program.switches();
        for (int k = -1; k <= switches; k++) {
            beginWhenLong();
            for (int what = -1; what <= 4; what++) {
                ask("switchAt", k, what);
            }
        }
        int many = vertices * vertices * vertices * vertices;
        for (int place = 0; place < many; place++) {
            holdSwitch(place % vertices, place / vertices % vertices,
                    place / vertices / vertices % vertices,
                    place / vertices / vertices / vertices);
        }
        for (int place = 0; place < 4; place++) {
            int[] switched = {0, 0, 0, 0};
            switched[place] = -1;
            holdSwitch(switched);
            switched[place] = vertices;
            holdSwitch(switched);
        }
    }

    private void holdSwitch(int... switched) {
        beginWhenLong();
        ask("reason", switched);
        ask("componentsBehind", switched);
        ask("switchEdges", switched);
        ask("write", 0);
        ask("undo");
    }

    private void beginWhenLong() {
        if (both.calls().size() > MAX_CALLS - LONGEST_STEP) {
            begin();
        }
    }

    private void holdEdits() {
        begin();
        holdEdit("connect");
        holdEdit("simplify");
        for (int mode = -1; mode <= 3; mode++) {
            holdEdit("realise", mode);
            holdEdit("setMode", mode);
        }
        begin();
        for (int u = -1; u <= vertices; u++) {
            for (int v = -1; v <= vertices; v++) {
                beginWhenLong();
                ask("addEdge", u, v);
                ask("write", 0);
                ask("undo");
                ask("removeEdge", u, v);
                ask("write", 0);
                ask("undo");
            }
        }
    }

    private void holdEdit(String name, int... parameters) {
        beginWhenLong();
        ask(name, parameters);
        holdState();
        ask("undo");
        holdState();
    }

    private void holdState() {
        ask("mode");
        for (int target = 0; target <= 1; target++) {
            int length = both.program.write(target == 1);
            ask("write", target);
            for (int k = -1; k <= length; k++) {
                ask("written", k);
            }
        }
    }

    private void holdPath() {
        begin();
        for (String name : Arrays.asList("isAlike", "difference", "pathLength", "distance",
                "nearest")) {
            ask(name);
        }
        int length = both.program.isAlike() ? both.program.pathLength() : 0;
        for (int k = -1; k <= length; k++) {
            beginWhenLong();
            for (int what = -1; what <= 4; what++) {
                ask("path", k, what);
            }
            holdEdit("follow", k);
        }
        holdEdit("follow", 17);
        holdEdit("exchange");
        holdEdit("copyToTarget");
    }

    // ---- texts

    private static void holdTexts() {
        for (String beginning : BEGINNINGS) {
            holdText(beginning, 3);
        }
    }

    private static void holdText(String text, int tokens) {
        Both both = new Both();
        Check.about(text);
        both.feed(text);
        both.compare("load", -1);
        both.compare("load", (text.length() + 19) / 20 * 20 + 1);
        both.compare("load", text.length());
        for (String name : Arrays.asList("errorKind", "errorPosition", "vertices", "mode")) {
            both.compare(name);
        }
        both.compare("edges", 0);
        both.compare("edges", 1);
        for (int k = 0; tokens > 0 && k < TOKENS.length; k++) {
            holdText(text + " " + TOKENS[k], tokens - 1);
        }
    }
}
