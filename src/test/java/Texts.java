import java.nio.charset.StandardCharsets;

/** Feeds texts to objects and reads their output back. */
final class Texts {
    static final Class<IndexOutOfBoundsException> INDEX = IndexOutOfBoundsException.class;
    static final Class<IllegalArgumentException> ARGUMENT = IllegalArgumentException.class;
    static final Class<IllegalStateException> STATE = IllegalStateException.class;
    static final Class<java.util.NoSuchElementException> MISSING =
            java.util.NoSuchElementException.class;

    private Texts() {
    }

    static void feed(SwitchGraphs x, String text) {
        byte[] bytes = text.getBytes(StandardCharsets.ISO_8859_1);
        for (int k = 0; k < bytes.length; k += 20) {
            x.feed(word(bytes, k), word(bytes, k + 4), word(bytes, k + 8), word(bytes, k + 12),
                    word(bytes, k + 16));
        }
    }

    private static int word(byte[] bytes, int from) {
        int word = 0;
        for (int k = from; k < from + 4; k++) {
            word = word << 8 | (k < bytes.length ? bytes[k] & 255 : ' ');
        }
        return word;
    }

    static int load(SwitchGraphs x, String text) {
        feed(x, text);
        return x.load(text.length());
    }

    static SwitchGraphs of(String text) {
        SwitchGraphs x = new SwitchGraphs();
        Check.is("legal: " + text, load(x, text) >= 0, true);
        return x;
    }

    /** A text for graphs that are told as write() tells them, as "0-0 0-1x3". */
    static String text(int vertices, int mode, String graph, String target) {
        StringBuilder text = new StringBuilder("vertices " + vertices + ";");
        appendEdges(text, "edge", graph);
        appendEdges(text, "target", target);
        if (mode != 0) {
            text.append("mode ").append(mode).append(';');
        }
        return text.toString();
    }

    private static void appendEdges(StringBuilder text, String statement, String edges) {
        for (String edge : edges.isEmpty() ? new String[0] : edges.split(" ")) {
            int left = edge.length() > 3 ? Integer.parseInt(edge.substring(4)) : 1;
            while (left > 0) {
                int times = Math.min(left, 9);
                text.append(statement).append(edge.charAt(0)).append(' ').append(edge.charAt(2));
                text.append(times > 1 ? " " + times : "").append(';');
                left -= times;
            }
        }
    }

    static SwitchGraphs made(int vertices, int mode, String graph, String target) {
        return of(text(vertices, mode, graph, target));
    }

    static String graph(SwitchGraphs x) {
        return written(x, false);
    }

    static String target(SwitchGraphs x) {
        return written(x, true);
    }

    private static String written(SwitchGraphs x, boolean target) {
        int length = x.write(target);
        StringBuilder text = new StringBuilder();
        for (int k = 0; k < length; k++) {
            text.append(x.written(k));
        }
        return text.toString();
    }

    /** The list of switches, each as its four vertices. */
    static String switches(SwitchGraphs x) {
        StringBuilder text = new StringBuilder();
        for (int k = 0; k < x.switches(); k++) {
            text.append(k > 0 ? " " : "");
            for (int what = 0; what < 4; what++) {
                text.append(x.switchAt(k, what));
            }
        }
        return text.toString();
    }

    static String path(SwitchGraphs x) {
        StringBuilder text = new StringBuilder();
        for (int k = 0; k < x.pathLength(); k++) {
            text.append(k > 0 ? " " : "");
            for (int what = 0; what < 4; what++) {
                text.append(x.path(k, what));
            }
        }
        return text.toString();
    }
}
