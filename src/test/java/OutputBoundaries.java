/** Promises 47 and 48, at their boundaries. */
final class OutputBoundaries {
    private static final String SIXTEEN_PAIRS =
            "0-1 0-2 0-3 0-4 0-5 0-6 0-7 1-2 1-3 1-4 1-5 1-6 1-7 2-3 2-4 7-7";

    private OutputBoundaries() {
    }

    static void run() {
        Sentence.test("Promise 47",
                "Writes the graph, or the target, to the output, in place of what the output has:",
                OutputBoundaries::inPlaceOfTheOutput);
        Sentence.test("Promise 47",
                "for each two vertices (u not greater than v, in the order of u and then v)"
                        + " between which there are edges, u, \"-\", v,",
                OutputBoundaries::orderOfPairs);
        Sentence.test("Promise 47", "and if there is more than one, \"x\" and their number;",
                OutputBoundaries::numbersOfEdges);
        Sentence.test("Promise 47", "with a space between two of them.",
                OutputBoundaries::spacesBetween);
        Sentence.test("Promise 47", "Example: 0-0 0-1x3 1-2.",
                () -> written(3, "0-0 0-1x3 1-2"));
        Sentence.test("Promise 47", "Returns the number of characters.",
                OutputBoundaries::fewestAndMostCharacters);
        Sentence.test("Promise 48", "Returns a character of the output.",
                OutputBoundaries::firstAndLastCharacter);
        Sentence.test("Promise 48", "- `k`: index, from 0", OutputBoundaries::indexFrom0);
        Sentence.test("Promise 48",
                "Throws `IndexOutOfBoundsException` if there is no such character, or nothing was"
                        + " written yet",
                OutputBoundaries::noSuchCharacter);
    }

    /** The graph, and the target, are written as they are told. */
    private static void written(int vertices, String graph) {
        SwitchGraphs x = Texts.made(vertices, 0, graph, "");
        Check.is("graph", Texts.graph(x), graph);
        Check.is("no target", Texts.target(x), "");
        x.exchange();
        Check.is("target", Texts.target(x), graph);
        Check.is("no graph", Texts.graph(x), "");
    }

    private static void inPlaceOfTheOutput() {
        SwitchGraphs x = Texts.made(3, 0, "0-0 0-1x3 1-2", "2-2");
        Check.is("the graph", Texts.graph(x), "0-0 0-1x3 1-2");
        Check.is("the target, which is shorter", x.write(true), 3);
        Check.is("the first character", x.written(0), '2');
        Check.is("the last character", x.written(2), '2');
        Check.throwing("what was there is gone", Texts.INDEX, () -> x.written(3));
        Check.is("the graph again", Texts.graph(x), "0-0 0-1x3 1-2");
        x.removeEdge(0, 0);
        Check.is("the output is not the graph", x.written(2), '0');
        Check.is("before it is written", Texts.graph(x), "0-1x3 1-2");
        x.load(0);
        Check.is("nothing is written", x.write(false), 0);
        Check.throwing("and nothing is left", Texts.INDEX, () -> x.written(0));
    }

    private static void orderOfPairs() {
        written(1, "");
        written(1, "0-0");
        written(2, "0-1");
        written(2, "1-1");
        written(8, "7-7");
        written(8, "0-7");
        written(8, "0-7 1-1");
        written(8, "0-0 0-7 1-6 6-6 6-7 7-7");
        Check.is("u is the smaller one", Texts.graph(Texts.of("vertices 8;edge 7 0;edge 6 1;")),
                "0-7 1-6");
    }

    private static void numbersOfEdges() {
        written(2, "0-1");
        written(2, "0-1x2");
        written(2, "0-1x9");
        written(2, "0-1x10");
        written(2, "0-1x11");
        written(2, "0-1x15");
        written(2, "0-1x16");
        written(1, "0-0x2");
        written(1, "0-0x16");
        SwitchGraphs x = Texts.made(1, 0, "0-0x9", "");
        x.addEdge(0, 0);
        Check.is("ten", Texts.graph(x), "0-0x10");
        x.undo();
        Check.is("nine", Texts.graph(x), "0-0x9");
    }

    private static void spacesBetween() {
        written(3, "");
        written(3, "1-1");
        written(3, "1-1 2-2");
        written(3, "1-1x2 1-2x3 2-2x10");
        written(8, SIXTEEN_PAIRS);
    }

    private static void fewestAndMostCharacters() {
        Check.is("none", new SwitchGraphs().write(false), 0);
        Check.is("none of the target", new SwitchGraphs().write(true), 0);
        Check.is("one pair", Texts.made(2, 0, "0-1", "").write(false), 3);
        Check.is("two edges", Texts.made(2, 0, "0-1x2", "").write(false), 5);
        Check.is("ten edges", Texts.made(2, 0, "0-1x10", "").write(false), 6);
        Check.is("two pairs", Texts.made(2, 0, "0-1 1-1", "").write(false), 7);
        Check.is("15 pairs", Texts.made(8, 0, SIXTEEN_PAIRS.substring(0, 59), "").write(false), 59);
        Check.is("16 pairs", Texts.made(8, 0, SIXTEEN_PAIRS, "").write(false), 63);
        Check.is("16 pairs of the target", Texts.made(8, 0, "", SIXTEEN_PAIRS).write(true), 63);
        String doubles = "0-0x2 1-1x2 2-2x2 3-3x2 4-4x2 5-5x2 6-6x2 7-7x2";
        Check.is("8 pairs of two", Texts.made(8, 0, doubles, "").write(false), 47);
        Check.is("8 pairs of two", Texts.graph(Texts.made(8, 0, doubles, "")), doubles);
    }

    private static void firstAndLastCharacter() {
        SwitchGraphs x = Texts.made(8, 0, SIXTEEN_PAIRS, "0-7x16");
        x.write(false);
        for (int k = 0; k < 63; k++) {
            Check.is("character " + k, x.written(k), SIXTEEN_PAIRS.charAt(k));
        }
        x.write(true);
        String due = "0-7x16";
        for (int k = 0; k < 6; k++) {
            Check.is("character " + k + " of the target", x.written(k), due.charAt(k));
        }
    }

    private static void indexFrom0() {
        SwitchGraphs x = Texts.made(2, 0, "0-1x3", "");
        x.write(false);
        Check.throwing("-1", Texts.INDEX, () -> x.written(-1));
        Check.is("0", x.written(0), '0');
        Check.is("1", x.written(1), '-');
        Check.is("3", x.written(3), 'x');
        Check.is("4", x.written(4), '3');
        Check.throwing("5", Texts.INDEX, () -> x.written(5));
    }

    private static void noSuchCharacter() {
        SwitchGraphs none = Texts.of("vertices 2;edge 0 1;");
        Check.throwing("nothing was written yet", Texts.INDEX, () -> none.written(0));
        Check.throwing("nor before it", Texts.INDEX, () -> none.written(-1));
        Check.is("is written", none.write(false), 3);
        Check.is("now there is one", none.written(0), '0');
        // A busy object has written its graph.
        Refused.outside("of 3", Texts.INDEX, Texts.text(2, 0, "0-1", ""), 0, 2,
                (x, k) -> x.written(k));
        Refused.outside("of 63", Texts.INDEX, Texts.text(8, 0, SIXTEEN_PAIRS, ""), 0, 62,
                (x, k) -> x.written(k));
        Refused.call("of none", Texts.INDEX, "", x -> x.written(0));
    }
}
