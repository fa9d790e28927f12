/** Tells whether texts are legal, and the errors of those that are not. */
final class Judge {
    /** Statements that fill the graph, and the target, of a text with two vertices at least. */
    static final String SIXTEEN = "edge 0 0 9;edge 0 1 7;";
    static final String SIXTEEN_IN_TARGET = "target 0 0 9;target 0 1 7;";

    private Judge() {
    }

    static void legal(String text) {
        SwitchGraphs x = new SwitchGraphs();
        Check.is("legal: " + text, Texts.load(x, text) >= 0, true);
        Check.is("no error: " + text, x.errorKind(), 0);
    }

    static void fault(String text, int kind, int position) {
        SwitchGraphs x = Texts.of("vertices 6;edge 0 5;");
        Check.is("not legal: " + text, Texts.load(x, text), SwitchGraphs.BAD_TEXT);
        Check.is("kind: " + text, x.errorKind(), kind);
        Check.is("position: " + text, x.errorPosition(), position);
        Check.is("the graph stays: " + text, x.times(0, 5, false), 1);
    }

    /** The error is at the end of the told beginning. */
    static void faultBehind(String beginning, String rest, int kind) {
        fault(beginning + rest, kind, beginning.length());
    }
}
