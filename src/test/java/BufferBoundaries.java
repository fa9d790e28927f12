/** Promises 1 to 5, at their boundaries. */
final class BufferBoundaries {
    private static final String SIXTEEN = Judge.SIXTEEN;
    private static final String SIXTEEN_IN_TARGET = Judge.SIXTEEN_IN_TARGET;

    private BufferBoundaries() {
    }

    static void run() {
        lifeOfAnObject();
        promise1();
        promise2();
        promise3();
        promises4And5();
    }

    // ---- what it is

    private static void lifeOfAnObject() {
        Sentence.test("Promise 1, What it is",
                "An object is used for at most 512 calls after it has been made",
                BufferBoundaries::all512CallsAnswer);
    }

    private static void all512CallsAnswer() {
        SwitchGraphs x = new SwitchGraphs();
        for (int call = 1; call <= 512; call++) {
            Check.is("setMode, call " + call, x.setMode(call % 3), (call - 1) % 3);
        }
        SwitchGraphs edited = new SwitchGraphs();
        for (int call = 1; call <= 512; call += 2) {
            Check.is("addEdge, call " + call, edited.addEdge(0, 0), 1);
            Check.is("undo, call " + (call + 1), edited.undo(), 0);
        }
        SwitchGraphs read = new SwitchGraphs();
        for (int call = 1; call <= 512; call += 2) {
            Check.is("feed, call " + call, read.feed(0, 0, 0, 0, 0), 20);
            Check.is("load, call " + (call + 1), read.load(20), SwitchGraphs.BAD_TEXT);
        }
    }

    // ---- promises 1 to 5

    private static void promise1() {
        Sentence.test("Promise 1", "Creates what an empty text defines, and an empty buffer.",
                BufferBoundaries::newObject);
        Sentence.test("Promise 5, The constants:", "`NONE = -1`: There is no such thing.",
                () -> Check.is("NONE", SwitchGraphs.NONE, -1));
        Sentence.test("Promise 2, The constants:", "`FULL = -2`: The buffer is full.",
                () -> Check.is("FULL", SwitchGraphs.FULL, -2));
        Sentence.test("Promise 3, The constants:", "`BAD_TEXT = -3`: The text is not legal.",
                () -> Check.is("BAD_TEXT", SwitchGraphs.BAD_TEXT, -3));
    }

    private static void newObject() {
        SwitchGraphs read = new SwitchGraphs();
        Check.is("an empty text", read.load(0), 0);
        Check.is("the same", View.whole(new SwitchGraphs()), View.whole(read));
        SwitchGraphs x = new SwitchGraphs();
        Check.is("vertices", x.vertices(), 1);
        Check.throwing("the buffer has no byte", Texts.ARGUMENT, () -> x.load(1));
        Check.is("the first 20", x.feed(0, 0, 0, 0, 0), 20);
        Check.is("no edit", x.undo(), SwitchGraphs.NONE);
    }

    private static void promise2() {
        Sentence.test("Promise 2",
                "Appends 20 bytes to the buffer: the four bytes of a, then of b, c, d and e, the"
                        + " most significant byte of each first.",
                BufferBoundaries::placesOfBytes);
        Sentence.test("Promise 2",
                "Returns the number of bytes in the buffer; FULL if there would be more than 400"
                        + " (nothing is appended).",
                BufferBoundaries::fullBuffer);
    }

    private static void placesOfBytes() {
        int[] signs = {1, 127, 128, 255};
        for (int sign : signs) {
            for (int place = 0; place < 20; place++) {
                int[] words = new int[5];
                for (int k = 0; k < 20; k++) {
                    words[k / 4] = words[k / 4] << 8 | (k == place ? sign : ' ');
                }
                SwitchGraphs x = new SwitchGraphs();
                Check.is("20 bytes", x.feed(words[0], words[1], words[2], words[3], words[4]), 20);
                Check.is("with " + sign, x.load(20), SwitchGraphs.BAD_TEXT);
                Check.is("kind", x.errorKind(), 1);
                Check.is("place of " + sign, x.errorPosition(), place);
            }
        }
        SwitchGraphs x = new SwitchGraphs();
        x.feed(0x64656772, 0x65657320, 0x31203320, 0x30203420, 0x32203b0a);
        Check.is("degrees 1 3 0 4 2 ;", x.load(20), 5);
        Check.is("its graph", Texts.graph(x), "0-1 1-1 3-3x2 4-4");
    }

    private static void fullBuffer() {
        SwitchGraphs x = new SwitchGraphs();
        int blanks = 0x20202020;
        for (int bytes = 20; bytes <= 380; bytes += 20) {
            Check.is("bytes", x.feed(blanks, blanks, blanks, blanks, blanks), bytes);
        }
        Check.is("the last 20", x.feed(blanks, blanks, blanks, blanks, 0x2020203b), 400);
        Check.is("20 more", x.feed(0, 0, 0, 0, 0), SwitchGraphs.FULL);
        Check.is("and again", x.feed(-1, -1, -1, -1, -1), SwitchGraphs.FULL);
        Check.throwing("nothing is appended", Texts.ARGUMENT, () -> x.load(401));
        Check.is("nothing is changed", x.load(400), SwitchGraphs.BAD_TEXT);
        Check.is("the last byte is a semicolon", x.errorKind(), 2);
        Check.is("all before it are blanks", x.errorPosition(), 399);
        Check.is("an empty buffer again", x.feed(0, 0, 0, 0, 0), 20);
        Check.is("of the new bytes", x.load(20), SwitchGraphs.BAD_TEXT);
        Check.is("the first one is wrong", x.errorPosition(), 0);
    }

    private static void promise3() {
        Sentence.test("Promise 3",
                "Reads a text from the first bytes of the buffer and empties the buffer, also if"
                        + " the text is not legal.",
                BufferBoundaries::loadEmptiesTheBuffer);
        Sentence.test("Promise 3",
                "- `length`: number of bytes of the text, 0 to the number of bytes in the buffer",
                BufferBoundaries::lengthsOfTexts);
        Sentence.test("Promise 3", "Returns the number of edges of the graph;",
                BufferBoundaries::loadCountsEdges);
        Sentence.test("Promise 3",
                "BAD_TEXT if the text is not legal (everything but the buffer and the error"
                        + " stays).",
                BufferBoundaries::badTextLeavesAllElse);
        Sentence.test("Promise 3",
                "Throws `IllegalArgumentException` if length is out of range (the buffer keeps its"
                        + " bytes)",
                BufferBoundaries::lengthOutOfRange);
    }

    private static void loadEmptiesTheBuffer() {
        int[] lengths = {0, 11, 12, 20};
        int[] answers = {0, 0, SwitchGraphs.BAD_TEXT, SwitchGraphs.BAD_TEXT};
        int[] vertices = {1, 3, 5, 5};
        for (int k = 0; k < lengths.length; k++) {
            SwitchGraphs x = Texts.of("vertices 5;");
            Texts.feed(x, "vertices 3;;vertices");
            Check.is("first bytes", x.load(lengths[k]), answers[k]);
            Check.is("vertices", x.vertices(), vertices[k]);
            Check.throwing("no byte is left", Texts.ARGUMENT, () -> x.load(1));
            Check.is("the buffer is empty", x.feed(0, 0, 0, 0, 0), 20);
        }
    }

    private static void lengthsOfTexts() {
        for (int bytes = 0; bytes <= 400; bytes += 20) {
            String blanks = " ".repeat(bytes);
            int[] inside = {0, Math.min(1, bytes), Math.max(0, bytes - 1), bytes};
            for (int length : inside) {
                SwitchGraphs x = Texts.of("vertices 2;");
                Texts.feed(x, blanks);
                Check.is(length + " of " + bytes, x.load(length), 0);
                Check.is("an empty text", x.vertices(), 1);
            }
            SwitchGraphs x = Texts.of("vertices 2;");
            Texts.feed(x, blanks);
            int tooLong = bytes + 1;
            Check.throwing("-1 of " + bytes, Texts.ARGUMENT, () -> x.load(-1));
            Check.throwing(tooLong + " of " + bytes, Texts.ARGUMENT, () -> x.load(tooLong));
            Check.is("the graph stays", x.vertices(), 2);
            Check.is("the bytes stay", x.load(bytes), 0);
        }
    }

    private static void loadCountsEdges() {
        SwitchGraphs x = new SwitchGraphs();
        Check.is("no text", x.load(0), 0);
        Check.is("none", Texts.load(x, "vertices 8;"), 0);
        Check.is("none but in the target", Texts.load(x, "vertices 2;" + SIXTEEN_IN_TARGET), 0);
        Check.is("one", Texts.load(x, "vertices 1;edge 0 0;"), 1);
        Check.is("15", Texts.load(x, "degrees 30;target 0 0;"), 15);
        Check.is("16", Texts.load(x, "vertices 2;" + SIXTEEN), 16);
        Check.is("17", Texts.load(x, "vertices 2;" + SIXTEEN + "edge 0 0;"),
                SwitchGraphs.BAD_TEXT);
    }

    private static void badTextLeavesAllElse() {
        String[] bad = {"verticez 1;", "vertices 9;", "degrees 0 0 1;", "degrees 1 1 1 1 1 1 1 1 0",
            "vertices 8;edge 0 0 9;target 0 0;mode 1;mode 3;", "vertices 1", "degrees 2 2;#",
            "vertices 2;" + SIXTEEN + SIXTEEN_IN_TARGET + "mode 2;edge 0 0;"};
        for (String text : bad) {
            SwitchGraphs x = busyWithoutBuffer();
            SwitchGraphs untouched = busyWithoutBuffer();
            Check.is("bad: " + text, Texts.load(x, text), SwitchGraphs.BAD_TEXT);
            Check.is("the graphs stay: " + text, View.graphs(x), View.graphs(untouched));
            Check.is("the output stays: " + text, x.written(2), untouched.written(2));
            Check.is("the edits stay: " + text, View.edits(x), View.edits(untouched));
        }
    }

    private static SwitchGraphs busyWithoutBuffer() {
        SwitchGraphs x = Refused.busy("vertices 3;edge 0 1 2;target 1 2;mode 1;");
        x.load(x.feed(-1, -1, -1, -1, -1));
        return x;
    }

    private static void lengthOutOfRange() {
        String text = "vertices 3;edge 0 1 2;target 1 2;mode 1;";
        // A busy object has 20 bytes in its buffer.
        int[] outside = {-1, 21, 400, 401, Integer.MIN_VALUE, Integer.MAX_VALUE};
        for (int length : outside) {
            Refused.call("load(" + length + ")", Texts.ARGUMENT, text, x -> x.load(length));
        }
        int[] inside = {0, 1, 19, 20};
        for (int length : inside) {
            Check.passing("load(" + length + ")", () -> Refused.busy(text).load(length));
        }
        SwitchGraphs x = Texts.of("");
        Texts.feed(x, "vertices 4;");
        Check.throwing("too long", Texts.ARGUMENT, () -> x.load(21));
        Check.throwing("too short", Texts.ARGUMENT, () -> x.load(-1));
        Check.is("the buffer keeps its number of bytes", x.feed(0, 0, 0, 0, 0), 40);
        Check.is("the buffer keeps its bytes", x.load(11), 0);
        Check.is("they are read", x.vertices(), 4);
    }

    private static void promises4And5() {
        Sentence.test("Promise 4",
                "Returns the kind of the error of the latest load() that did not throw an"
                        + " exception; 0 if it had none or there was no such load().",
                BufferBoundaries::kindOfTheLatestLoad);
        Sentence.test("Promise 5",
                "Returns the position of that error in the text; NONE if errorKind() is 0.",
                BufferBoundaries::positionOfTheLatestLoad);
    }

    private static void kindOfTheLatestLoad() {
        SwitchGraphs x = new SwitchGraphs();
        Check.is("no load", x.errorKind(), 0);
        Check.throwing("a load that throws", Texts.ARGUMENT, () -> x.load(1));
        Check.is("still none", x.errorKind(), 0);
        String[] bad = {"#", "x", "vertices 9;", "degrees 1;", "degrees 0 0 0 0 0 0 0 0 0;"};
        for (int k = 0; k < bad.length; k++) {
            Texts.load(x, bad[k]);
            Check.is("kind of " + bad[k], x.errorKind(), k + 1);
            Check.throwing("a load that throws", Texts.ARGUMENT, () -> x.load(-1));
            x.addEdge(0, 0);
            x.undo();
            x.feed(0, 0, 0, 0, 0);
            Check.is("kind stays", x.errorKind(), k + 1);
            x.load(0);
            Check.is("a legal text has none", x.errorKind(), 0);
        }
    }

    private static void positionOfTheLatestLoad() {
        SwitchGraphs x = new SwitchGraphs();
        Check.is("no load", x.errorPosition(), SwitchGraphs.NONE);
        Check.throwing("a load that throws", Texts.ARGUMENT, () -> x.load(1));
        Check.is("still none", x.errorPosition(), SwitchGraphs.NONE);
        int[] places = {0, 1, 398, 399};
        for (int place : places) {
            Texts.load(x, " ".repeat(place) + "x");
            Check.is("position", x.errorPosition(), place);
            Check.throwing("a load that throws", Texts.ARGUMENT, () -> x.load(-1));
            Check.is("position stays", x.errorPosition(), place);
        }
        Texts.load(x, "vertices" + " ".repeat(392));
        Check.is("behind the last byte", x.errorPosition(), 400);
        Check.is("with a kind", x.errorKind(), 2);
        Texts.load(x, "vertices 1;");
        Check.is("none again", x.errorPosition(), SwitchGraphs.NONE);
        Check.is("as the kind is 0", x.errorKind(), 0);
    }
}
