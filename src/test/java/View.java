/** What an object answers about its state, as a text: so two objects can be held side by side. */
final class View {
    private View() {
    }

    /**
     * All that can be told: this uses up the edits that are remembered, and the buffer. With few
     * edits it stays below the 512 calls that an object is good for.
     */
    static String whole(SwitchGraphs x) {
        return graphs(x) + edits(x) + aside(x) + buffer(x);
    }

    /** What undo() brings back: the graph, the target and the mode. */
    static String graphs(SwitchGraphs x) {
        return "\n" + x.vertices() + " vertices, mode " + x.mode() + ", " + x.edges(false)
                + " edges" + pairs(x, false) + ", " + x.edges(true) + " in the target"
                + pairs(x, true);
    }

    private static String pairs(SwitchGraphs x, boolean target) {
        StringBuilder text = new StringBuilder();
        int n = x.vertices();
        for (int u = 0; u < n; u++) {
            for (int v = u; v < n; v++) {
                int times = x.times(u, v, target);
                text.append(times > 0 ? " " + u + "-" + v + "x" + times : "");
            }
        }
        return text.toString();
    }

    /** What undo() does not bring back, but for the buffer. */
    static String aside(SwitchGraphs x) {
        return "\nerror " + x.errorKind() + " at " + x.errorPosition() + ", output: " + output(x);
    }

    private static String output(SwitchGraphs x) {
        StringBuilder text = new StringBuilder();
        try {
            for (int k = 0; k < 100; k++) {
                text.append(x.written(k));
            }
        } catch (IndexOutOfBoundsException e) {
            return text.toString();
        }
        return "without an end";
    }

    static String edits(SwitchGraphs x) {
        StringBuilder text = new StringBuilder();
        int left = 0;
        for (int k = 0; k < 20 && left != SwitchGraphs.NONE; k++) {
            left = x.undo();
            text.append("\nundo ").append(left);
            text.append(left == SwitchGraphs.NONE ? "" : graphs(x));
        }
        return text.toString();
    }

    static String buffer(SwitchGraphs x) {
        int fed = x.feed(0x20202020, 0x20202020, 0x20202020, 0x20202020, 0x20202020);
        int bytes = fed == SwitchGraphs.FULL ? 400 : fed;
        return "\nbuffer " + fed + " load " + x.load(bytes) + graphs(x) + "\nerror "
                + x.errorKind() + " at " + x.errorPosition();
    }
}
