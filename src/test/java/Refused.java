/** Calls that are refused: they throw just the exception that is due, and change nothing. */
final class Refused {
    interface Call {
        void on(SwitchGraphs x);
    }

    interface CallWith {
        void on(SwitchGraphs x, int k);
    }

    private Refused() {
    }

    /**
     * An object in the midst of its work: with what the text defines, three edits to undo, one
     * that is undone, an error, an output and bytes in its buffer.
     */
    static SwitchGraphs busy(String text) {
        SwitchGraphs x = Texts.of(text);
        x.exchange();
        x.exchange();
        x.setMode(x.mode());
        x.copyToTarget();
        Check.is("edits", x.undo(), 3);
        Check.is("an error", Texts.load(x, "vertices 1; vertices"), SwitchGraphs.BAD_TEXT);
        x.write(false);
        Texts.feed(x, "vertices 2;edge 0 1;");
        return x;
    }

    /** Of two busy objects, one has a call refused: all answers of both are the same then. */
    static void call(String what, Class<? extends RuntimeException> due, String text, Call call) {
        SwitchGraphs x = busy(text);
        SwitchGraphs untouched = busy(text);
        Check.throwing(what, due, () -> call.on(x));
        Check.is(what + " changes nothing", View.whole(x), View.whole(untouched));
    }

    /** A parameter is refused outside of its range, and no value inside of it is. */
    static void outside(String what, Class<? extends RuntimeException> due, String text,
            int least, int most, CallWith call) {
        int[] outside = {least - 1, most + 1, Integer.MIN_VALUE, Integer.MAX_VALUE};
        for (int k : outside) {
            call(what + " " + k, due, text, x -> call.on(x, k));
        }
        for (int k = least; k <= most; k++) {
            int inside = k;
            Check.passing(what + " " + k, () -> call.on(busy(text), inside));
        }
    }

    /** A vertex that does not exist is refused: the last vertex of the text is told. */
    static void vertex(String what, String text, int last, CallWith call) {
        outside(what, Texts.INDEX, text, 0, last, call);
    }
}
