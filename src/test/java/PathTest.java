/** Promises 31 to 35: isAlike, difference, pathLength, path, distance. */
public final class PathTest {
    private static final String UNLIKE = "vertices 3; edge 0 1; target 0 2;";

    public static void main(String[] args) {
        promise31();
        promise32();
        promises33And34();
        promise35();
        Check.end();
    }

    private static void promise31() {
        Check.is("new", new SwitchGraphs().isAlike(), true);
        Check.is("unlike", Texts.of(UNLIKE).isAlike(), false);
        Check.is("same sequence in another order",
                Texts.of("vertices 3; edge 0 1; edge 0 2; target 0 1; target 1 2;").isAlike(), false);
        Check.is("loops", Texts.of("vertices 2; edge 0 0; edge 1 1; target 0 1 2;").isAlike(), true);
        Check.is("no target", Texts.of("vertices 2; edge 0 0;").isAlike(), false);
    }

    private static void promise32() {
        Check.is("new", new SwitchGraphs().difference(), 0);
        Check.is("unlike", Texts.of(UNLIKE).difference(), 1);
        Check.is("more in the graph",
                Texts.of("vertices 3; edge 0 1 5; edge 2 2 3; target 0 1 2; target 2 2;")
                        .difference(), 5);
        Check.is("more in the target",
                Texts.of("vertices 3; target 0 1 5; target 2 2 3; edge 0 1 2; edge 1 1;")
                        .difference(), 1);
    }

    private static void promises33And34() {
        paths("vertices 1;", "");
        paths("vertices 4; edge 0 1; edge 2 3; target 0 2; target 1 3;", "0123");
        paths("vertices 2; edge 0 1 2; target 0 0; target 1 1;", "0101");
        paths("vertices 3; edge 0 1; edge 0 2; target 0 0; target 1 2;", "0102");
        paths("vertices 2; edge 0 0; edge 1 1; target 0 1 2;", "0011");
        // The loops at 0 come first: once with two edges to 1, once with those to 1 and 2.
        paths("vertices 3; edge 0 1 3; edge 0 2; edge 1 2; target 0 0 2; target 1 1; target 1 2 2;",
                "0101 0102");
        paths("vertices 3; edge 0 1; edge 0 2 3; edge 1 2; target 0 0 2; target 1 2 2; target 2 2;",
                "0102 0202");
        paths("vertices 6; edge 0 1; edge 2 3; edge 4 5; target 0 3; target 1 4; target 2 5;",
                "0132 1245");
        // In the mode 0, whatever the mode is: the first switch adds a loop at 1.
        paths("vertices 4; edge 0 1; edge 1 2; edge 3 3; target 0 2; target 1 3 2; mode 2;",
                "0121 1133");
        SwitchGraphs x = Texts.of("vertices 4; edge 0 1; edge 2 3; target 0 2; target 1 3;");
        Check.throwing("no second switch", Texts.INDEX, () -> x.path(1, 0));
        Check.throwing("none before the first", Texts.INDEX, () -> x.path(-1, 0));
        Check.throwing("index before argument", Texts.INDEX, () -> x.path(1, 9));
        Check.throwing("what 4", Texts.ARGUMENT, () -> x.path(0, 4));
        Check.throwing("what -1", Texts.ARGUMENT, () -> x.path(0, -1));
        Check.throwing("empty path", Texts.INDEX, () -> new SwitchGraphs().path(0, 0));
        SwitchGraphs unlike = Texts.of(UNLIKE);
        Check.throwing("length, unlike", Texts.STATE, () -> unlike.pathLength());
        Check.throwing("state first", Texts.STATE, () -> unlike.path(-1, 9));
        Check.throwing("state", Texts.STATE, () -> unlike.path(0, 0));
    }

    private static void paths(String text, String due) {
        SwitchGraphs x = Texts.of(text);
        String graph = Texts.graph(x);
        Check.is("path of " + text, Texts.path(x), due);
        Check.is("its length", x.pathLength(), (due.length() + 1) / 5);
        Check.is("graph stays", Texts.graph(x), graph);
    }

    private static void promise35() {
        distances("vertices 1;", 0);
        distances("vertices 2; edge 0 1 3; target 0 1 3;", 0);
        distances("vertices 4; edge 0 1; edge 2 3; target 0 2; target 1 3; mode 2;", 1);
        distances("vertices 2; edge 0 0; edge 1 1; target 0 1 2; mode 2;", 1);
        distances("vertices 6; edge 0 1; edge 2 3; edge 4 5; target 0 3; target 1 4; target 2 5;",
                2);
        // A difference of 4: two switches apart from each other, and a ring of four that is not.
        distances("vertices 8; edge 0 1; edge 2 3; edge 4 5; edge 6 7; target 0 2; target 1 3;"
                + "target 4 6; target 5 7;", 2);
        distances("vertices 8; edge 0 1; edge 2 3; edge 4 5; edge 6 7; target 1 2; target 3 4;"
                + "target 5 6; target 7 0;", 3);
        distances("vertices 2; edge 0 0 8; edge 1 1 8; target 0 1 9; target 0 1 7;", 3);
        Check.throwing("unlike", Texts.STATE, () -> Texts.of(UNLIKE).distance());
    }

    private static void distances(String text, int due) {
        Check.is("distance of " + text, Texts.of(text).distance(), due);
    }
}
