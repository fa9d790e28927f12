/** Promises 26 to 30: reasons, the list of switches, componentsBehind, nearest. */
public final class SwitchTest {
    public static void main(String[] args) {
        promise26();
        promises27And28();
        promise29();
        promise30();
        Check.end();
    }

    private static SwitchGraphs inMode(String text, int mode) {
        return Texts.of(text + "mode " + mode + ";");
    }

    private static void reasons(String text, int[] due, int a, int b, int c, int d) {
        for (int mode = 0; mode <= 2; mode++) {
            SwitchGraphs x = inMode(text, mode);
            String what = a + " " + b + " " + c + " " + d + " in the mode " + mode + " of " + text;
            Check.is(what, x.reason(a, b, c, d), due[mode]);
            Check.is("b a d c of " + what, x.reason(b, a, d, c), due[mode]);
        }
    }

    private static void promise26() {
        String pairs = "vertices 5; edge 0 1; edge 2 3;";
        reasons(pairs, new int[] {0, 0, 0}, 0, 1, 2, 3);
        reasons(pairs, new int[] {1, 1, 1}, 0, 2, 0, 2);
        reasons(pairs, new int[] {1, 1, 1}, 0, 0, 2, 3);
        reasons(pairs, new int[] {2, 2, 2}, 0, 1, 0, 1);
        reasons(pairs, new int[] {2, 2, 2}, 0, 1, 1, 0);
        reasons(pairs, new int[] {2, 2, 2}, 2, 3, 3, 4);
        String twice = "vertices 3; edge 0 1 2; edge 1 2;";
        reasons(twice, new int[] {0, 4, 4}, 0, 1, 0, 1);
        reasons(twice, new int[] {3, 3, 3}, 0, 1, 1, 0);
        reasons(twice, new int[] {3, 3, 3}, 0, 1, 1, 2);
        reasons(twice, new int[] {0, 4, 4}, 0, 1, 2, 1);
        String loops = "vertices 4; edge 0 0; edge 1 1; edge 2 3; edge 2 2 2;";
        reasons(loops, new int[] {0, 0, 5}, 0, 0, 1, 1);
        reasons(loops, new int[] {0, 0, 0}, 0, 0, 2, 3);
        reasons(loops, new int[] {2, 2, 2}, 0, 0, 0, 0);
        reasons(loops, new int[] {3, 3, 3}, 2, 2, 2, 2);
        reasons(loops, new int[] {3, 3, 3}, 2, 2, 2, 3);
        String square = "vertices 4; edge 0 1; edge 2 3; edge 1 3;";
        reasons(square, new int[] {0, 0, 5}, 0, 1, 2, 3);
        reasons(square, new int[] {0, 0, 0}, 0, 1, 3, 2);
        reasons(square, new int[] {0, 4, 4}, 0, 1, 3, 1);
        SwitchGraphs x = Texts.of(pairs);
        Check.throwing("a", Texts.INDEX, () -> x.reason(5, 1, 2, 3));
        Check.throwing("b", Texts.INDEX, () -> x.reason(0, -1, 2, 3));
        Check.throwing("c", Texts.INDEX, () -> x.reason(0, 1, 8, 3));
        Check.throwing("d", Texts.INDEX, () -> x.reason(0, 1, 2, 5));
    }

    private static void promises27And28() {
        lists("vertices 4; edge 0 1; edge 2 3;", "0123 0132", "0123 0132", "0123 0132");
        lists("vertices 3; edge 0 1; edge 0 2;", "0102", "", "");
        lists("vertices 2; edge 0 1 2;", "0101", "", "");
        lists("vertices 2; edge 0 0; edge 1 1;", "0011", "0011", "");
        lists("vertices 3; edge 0 0; edge 1 2;", "0012", "0012", "0012");
        lists("vertices 1; edge 0 0 9;", "", "", "");
        lists("vertices 4; edge 0 1; edge 0 2; edge 2 3;", "0102 0123 0132 0232",
                "0123 0132", "0132");
        SwitchGraphs x = Texts.of("vertices 4; edge 0 1; edge 2 3;");
        Check.throwing("no third switch", Texts.INDEX, () -> x.switchAt(2, 0));
        Check.throwing("no switch before the first", Texts.INDEX, () -> x.switchAt(-1, 0));
        Check.throwing("index first", Texts.INDEX, () -> x.switchAt(2, 4));
        Check.throwing("what 4", Texts.ARGUMENT, () -> x.switchAt(1, 4));
        Check.throwing("what -1", Texts.ARGUMENT, () -> x.switchAt(0, -1));
        Check.throwing("an empty list", Texts.INDEX, () -> new SwitchGraphs().switchAt(0, 0));
    }

    private static void lists(String text, String... due) {
        for (int mode = 0; mode <= 2; mode++) {
            String what = "list in the mode " + mode + " of " + text;
            Check.is(what, Texts.switches(inMode(text, mode)), due[mode]);
            Check.is("length of the " + what, inMode(text, mode).switches(),
                    (due[mode].length() + 1) / 5);
        }
    }

    private static void promise29() {
        SwitchGraphs x = Texts.of("vertices 7; edge 0 1; edge 1 2; edge 2 0; edge 3 4; edge 4 5;"
                + "edge 5 3; mode 1;");
        Check.is("two rings become one", x.componentsBehind(0, 1, 3, 4), 2);
        Check.is("graph stays", x.components(), 3);
        Check.is("one becomes two", Texts.of("vertices 4; edge 0 1; edge 1 2; edge 2 3; edge 3 0;")
                .componentsBehind(0, 1, 3, 2), 2);
        Check.is("with a loop", Texts.of("vertices 3; edge 0 1; edge 0 2;")
                .componentsBehind(0, 1, 0, 2), 2);
        Check.throwing("reason 4", Texts.STATE, () -> x.componentsBehind(0, 1, 0, 2));
        Check.throwing("reason 1", Texts.STATE, () -> x.componentsBehind(0, 3, 1, 4));
        Check.throwing("no vertex", Texts.INDEX, () -> x.componentsBehind(0, 3, 1, 7));
        Check.throwing("no other vertex", Texts.INDEX, () -> x.componentsBehind(-1, 3, 1, 4));
    }

    private static void promise30() {
        String text = "vertices 4; edge 0 1; edge 2 3;";
        Check.is("the second", Texts.of(text + "target 0 3; target 1 2;").nearest(), 1);
        Check.is("the first of several", Texts.of(text).nearest(), 0);
        Check.is("none is nearer", Texts.of(text + "target 0 1; target 2 3;").nearest(), 0);
        Check.is("other degrees", Texts.of(text + "target 0 3;").nearest(), 1);
        String path = "vertices 4; edge 0 1; edge 0 2; edge 2 3; target 0 1; target 1 2; target 0 3;";
        Check.is("by the mode 0", Texts.of(path + "mode 0;").nearest(), 2);
        Check.is("by the mode 2", Texts.of(path + "mode 2;").nearest(), 0);
        Check.is("graph stays", Texts.graph(Texts.of(text)), "0-1 2-3");
        Check.throwing("empty list", Texts.MISSING, () -> new SwitchGraphs().nearest());
        Check.throwing("empty list in the mode", Texts.MISSING,
                () -> Texts.of("vertices 2; edge 0 1 2; mode 1;").nearest());
    }
}
