/** Promise 3, at the boundaries of texts: their tokens and their statements. */
final class TextBoundaries {
    private static final String SIXTEEN = Judge.SIXTEEN;
    private static final String SIXTEEN_IN_TARGET = Judge.SIXTEEN_IN_TARGET;

    private TextBoundaries() {
    }

    static void run() {
        tokens();
        statements();
    }

    private static String graphOf(String text) {
        return Texts.graph(Texts.of(text));
    }

    private static String targetOf(String text) {
        return Texts.target(Texts.of(text));
    }

    // ---- tokens

    private static void tokens() {
        Sentence.test("Promise 3, TEXT", "The text has at most 400 bytes.",
                TextBoundaries::textsOf400Bytes);
        Sentence.test("Promise 3, TEXT",
                "Tokens are words (1 to 8 lower-case letters), numbers (1 to 2 digits) and the"
                        + " semicolon.",
                TextBoundaries::shortestAndLongestTokens);
        Sentence.test("Promise 3, TEXT", "A token extends as far as possible.",
                TextBoundaries::tokensExtend);
        Sentence.test("Promise 3, TEXT",
                "Spaces (32) and line feeds (10) may stand before the first token, between tokens"
                        + " and behind the last token.",
                TextBoundaries::blanks);
        Sentence.test("Promise 3, TEXT",
                "A longer run of letters, a longer run of digits and any other byte are illegal"
                        + " tokens.",
                TextBoundaries::illegalTokens);
    }

    private static void textsOf400Bytes() {
        for (int length = 399; length <= 400; length++) {
            SwitchGraphs x = new SwitchGraphs();
            Check.is("edges", Texts.load(x, " ".repeat(length - 11) + "vertices 8;"), 0);
            Check.is("read to the end of " + length + " bytes", x.vertices(), 8);
        }
        SwitchGraphs x = new SwitchGraphs();
        Texts.feed(x, " ".repeat(389) + "vertices 7;");
        Check.is("there is no place for more", x.feed(0, 0, 0, 0, 0), SwitchGraphs.FULL);
        Check.throwing("401 bytes", Texts.ARGUMENT, () -> x.load(401));
        Check.is("400 bytes", x.load(400), 0);
        Check.is("all of them were read", x.vertices(), 7);
    }

    private static void shortestAndLongestTokens() {
        Judge.fault("v", 2, 0);
        Judge.fault("verticed", 2, 0);
        Judge.fault("verticess", 1, 0);
        // The letters lie between ` and {, the digits between / and :, with the semicolon behind.
        String signs = "`az{/09:;<@AZ[";
        int[] kinds = {1, 2, 2, 1, 1, 2, 2, 1, 2, 1, 1, 1, 1, 1};
        for (int k = 0; k < kinds.length; k++) {
            Judge.fault(signs.substring(k, k + 1), kinds[k], 0);
        }
        Judge.legal("vertices 8;");
        Judge.legal("vertices 08;");
        Judge.fault("vertices 008;", 1, 9);
        Judge.fault("vertices;", 2, 8);
    }

    private static void tokensExtend() {
        Check.is("01 is one number", graphOf("vertices 2;edge 01 1;"), "1-1");
        Judge.fault("vertices 2;edge 0 12;", 3, 18);
        Judge.fault("vertices 2;edge 01;", 2, 18);
        Judge.fault("vertices 2;edge 0 1 12;", 3, 20);
        Judge.fault("vertices 2;edge 0 111;", 1, 18);
        Judge.fault("vertices 2;modemode 1;", 2, 11);
        Judge.fault("vertices 2;modemodes 1;", 1, 11);
        Check.is("words end at digits", graphOf("vertices2;edge0 1;"), "0-1");
        Judge.fault("vertices 2;edge0edge;", 2, 16);
        Judge.fault("vertices 2;;", 2, 11);
        Check.is("mode of the last token", Texts.of("vertices 2;mode 01;").mode(), 1);
    }

    private static void blanks() {
        Check.is("everywhere", graphOf(" \n vertices\n2 \n; edge  0\n\n1 \n9 ;\n "), "0-1x9");
        Check.is("nowhere but between numbers", graphOf("vertices2;edge0 1 9;"), "0-1x9");
        Judge.legal("vertices 2;");
        Judge.legal("vertices\n2;");
        int[] others = {0, 9, 11, 12, 13, 31, 33, 127, 128, 133, 160, 255};
        for (int other : others) {
            char sign = (char) other;
            Judge.fault(sign + "vertices 2;", 1, 0);
            Judge.fault("vertices" + sign + "2;", 1, 8);
            Judge.fault("vertices 2" + sign + ";", 1, 10);
            Judge.fault("vertices 2;" + sign, 1, 11);
        }
    }

    private static void illegalTokens() {
        for (int other = 0; other < 256; other++) {
            boolean isLetter = other >= 'a' && other <= 'z';
            boolean isDigit = other >= '0' && other <= '9';
            String text = String.valueOf((char) other);
            if (other == ' ' || other == '\n') {
                Judge.legal(text);
            } else {
                Judge.fault(text, isLetter || isDigit || other == ';' ? 2 : 1, 0);
            }
        }
        int[] lengths = {9, 10, 16, 17, 40, 399, 400};
        for (int length : lengths) {
            Judge.fault("a".repeat(length), 1, 0);
            Judge.fault("0".repeat(length), 1, 0);
            Judge.fault("9".repeat(length), 1, 0);
        }
        Judge.fault("99", 2, 0);
        Judge.fault("999", 1, 0);
        // Runs that would be 2 again if their numbers wrapped around.
        Judge.fault("vertices 4294967298;", 1, 9);
        Judge.fault("vertices 18446744073709551618;", 1, 9);
        Judge.fault("vertices 0000000000002;", 1, 9);
    }

    // ---- statements

    private static void statements() {
        Sentence.test("Promise 3, TEXT",
                "The text consists of the statement \"vertices\" or the statement \"degrees\", and"
                        + " then any number of other statements",
                TextBoundaries::numberOfStatements);
        Sentence.test("Promise 3, TEXT",
                "an empty text (one without tokens) is legal, too, and the same as"
                        + " \"vertices 1;\"",
                TextBoundaries::emptyText);
        Sentence.test("Promise 3, TEXT",
                "vertices N ; degrees D { D } ; edge U V [ TIMES ] ; target U V [ TIMES ] ;"
                        + " mode M ;",
                TextBoundaries::shapesOfStatements);
        Sentence.test("Promise 3, TEXT",
                "N is 1 to 8: the graph has the vertices 0 to N - 1 and no edges.",
                TextBoundaries::statementVertices);
        Sentence.test("Promise 3, TEXT",
                "\"degrees\" tells the degrees of 1 to 8 vertices (0 to 32 each): the graph becomes"
                        + " the realisation of them in the mode 0.",
                TextBoundaries::statementDegrees);
        Sentence.test("Promise 3, TEXT",
                "\"edge\" adds an edge between U and V (that may be the same: a loop) to the graph,"
                        + " TIMES times (1 to 9; 1 without TIMES)",
                TextBoundaries::statementEdge);
        Sentence.test("Promise 3, TEXT",
                "\"target\" adds it to the target graph, which has the same vertices and no edges"
                        + " at first.",
                TextBoundaries::statementTarget);
        Sentence.test("Promise 3, TEXT", "The graph and the target have at most 16 edges each.",
                TextBoundaries::sixteenEdges);
        Sentence.test("Promise 3, TEXT",
                "\"mode\" sets the mode, 0 to 2 (0 without it); if it is repeated, the last one"
                        + " counts.",
                TextBoundaries::statementMode);
    }

    private static void numberOfStatements() {
        oneLetterBeside("", "vertices", " 1;");
        oneLetterBeside("", "degrees", " 0;");
        oneLetterBeside("vertices 1;", "edge", " 0 0;");
        oneLetterBeside("vertices 1;", "target", " 0 0;");
        oneLetterBeside("vertices 1;", "mode", " 0;");
        Judge.legal("vertices 1;");
        Judge.legal("degrees 0;");
        Judge.legal("vertices 1;mode 1;");
        Judge.legal("degrees 0;mode 1;");
        // As many as 400 bytes hold, of the shortest one.
        Check.is("65 others", Texts.of("degrees0;" + "mode0;".repeat(64) + "mode1;").mode(), 1);
        Check.is("in any order", graphOf("vertices 2;mode 1;edge 0 1;target 1 1;edge 0 0;mode 2;"),
                "0-0 0-1");
        Judge.fault("mode 1;", 2, 0);
        Judge.fault("edge 0 0;", 2, 0);
        Judge.fault("target 0 0;", 2, 0);
        Judge.fault("mode 1;vertices 1;", 2, 0);
        String[] first = {"vertices 1;", "degrees 0;"};
        for (String one : first) {
            Judge.faultBehind(one, "vertices 1;", 2);
            Judge.faultBehind(one, "degrees 0;", 2);
            Judge.faultBehind(one + "mode 1;", "vertices 1;", 2);
            Judge.faultBehind(one + "edge 0 0;", "degrees 0;", 2);
        }
    }

    /** The word is right; with any of its letters changed to the next ones it is not. */
    private static void oneLetterBeside(String beginning, String word, String rest) {
        Judge.legal(beginning + word + rest);
        for (int k = 0; k < word.length(); k++) {
            for (int step = -1; step <= 1; step += 2) {
                char[] letters = word.toCharArray();
                letters[k] = (char) ('a' + (letters[k] - 'a' + step + 26) % 26);
                Judge.faultBehind(beginning, new String(letters) + rest, 2);
            }
        }
    }

    private static void emptyText() {
        String due = View.whole(Texts.of("vertices 1;"));
        String[] empty = {"", " ", "\n", " \n \n", " ".repeat(399), "\n".repeat(400)};
        for (String text : empty) {
            SwitchGraphs x = Texts.of("degrees 3 3;target 0 1;mode 2;");
            x.addEdge(0, 1);
            Check.is("edges", Texts.load(x, text), 0);
            Check.is("as vertices 1;", View.whole(x), due);
        }
        Judge.fault(";", 2, 0);
        Judge.fault(" ;", 2, 1);
    }

    private static void shapesOfStatements() {
        Judge.fault("vertices;", 2, 8);
        Judge.legal("vertices 1;");
        Judge.fault("vertices 1 1;", 2, 11);
        Judge.fault("vertices 1", 2, 10);
        Judge.fault("degrees;", 2, 7);
        Judge.legal("degrees 0;");
        Judge.legal("degrees 0 0;");
        Judge.fault("degrees 0 0", 2, 11);
        for (String word : new String[] {"edge", "target"}) {
            String start = "vertices 1;" + word;
            Judge.faultBehind(start, ";", 2);
            Judge.faultBehind(start + " 0", ";", 2);
            Judge.legal(start + " 0 0;");
            Judge.legal(start + " 0 0 1;");
            Judge.faultBehind(start + " 0 0 1 ", "1;", 2);
            Judge.faultBehind(start + " 0 0", "", 2);
            Judge.faultBehind(start + " 0 0 1", "", 2);
        }
        Judge.fault("vertices 1;mode;", 2, 15);
        Judge.legal("vertices 1;mode 0;");
        Judge.fault("vertices 1;mode 0 0;", 2, 18);
        Judge.fault("vertices 1;mode 0", 2, 17);
        String[] beside = {"vertice", "verticet", "degree", "degreest", "degreesa"};
        for (String word : beside) {
            Judge.fault(word + " 1;", 2, 0);
        }
        String[] behind = {"edg", "edgf", "edges", "targe", "targeu", "targets", "mod", "modd",
            "modes", "e", "t", "m"};
        for (String word : behind) {
            Judge.faultBehind("vertices 1;", word + " 0 0;", 2);
        }
    }

    private static void statementVertices() {
        Judge.fault("vertices 0;", 3, 9);
        Judge.fault("vertices 00;", 3, 9);
        for (int n = 1; n <= 8; n++) {
            String text = "vertices " + n + ";";
            SwitchGraphs x = Texts.of("degrees 3 1;target 0 0;");
            Check.is("no edges", Texts.load(x, text), 0);
            Check.is("vertices", x.vertices(), n);
            Check.is("edges", x.edges(false), 0);
            Check.is("the first vertex", x.times(0, 0, false), 0);
            Check.is("the last vertex", x.times(n - 1, n - 1, false), 0);
            Refused.vertex("vertex", text, n - 1, (y, v) -> y.times(v, v, false));
        }
        Judge.fault("vertices 9;", 3, 9);
        Judge.fault("vertices 10;", 3, 9);
    }

    private static void statementDegrees() {
        Judge.fault("degrees;", 2, 7);
        for (int n = 1; n <= 8; n++) {
            SwitchGraphs x = Texts.of("degrees" + " 0".repeat(n) + ";");
            Check.is("vertices", x.vertices(), n);
            Check.is("edges", x.edges(false), 0);
            Check.is("edges of the target", x.edges(true), 0);
            Check.is("mode", x.mode(), 0);
        }
        Judge.fault("degrees" + " 0".repeat(9) + ";", 5, 24);
        Check.is("degree 0", graphOf("degrees 0;"), "");
        Check.is("degrees 1", graphOf("degrees 1 1;"), "0-1");
        Check.is("degree 31", graphOf("degrees 31 1;"), "0-0x15 0-1");
        Check.is("degree 32", graphOf("degrees 32;"), "0-0x16");
        Check.is("degree 32 behind 0", graphOf("degrees 0 32;"), "1-1x16");
        Judge.fault("degrees 33;", 3, 8);
        Judge.fault("degrees 0 33;", 3, 10);
        Check.is("loops, and pairs of odd ones", graphOf("degrees 3 0 1 1 3;"),
                "0-0 0-2 3-4 4-4");
        Check.is("in the mode 0, whatever the mode", graphOf("degrees 2 2 2;mode 2;"),
                "0-0 1-1 2-2");
        Check.is("the edges of the text come to it", graphOf("degrees 1 1;edge 0 1;"), "0-1x2");
    }

    private static void statementEdge() {
        Judge.fault("vertices 2;edge 0 1 0;", 3, 20);
        Check.is("without TIMES", graphOf("vertices 2;edge 0 1;"), "0-1");
        Check.is("once", graphOf("vertices 2;edge 0 1 1;"), "0-1");
        Check.is("twice", graphOf("vertices 2;edge 0 1 2;"), "0-1x2");
        Check.is("8 times", graphOf("vertices 2;edge 0 1 8;"), "0-1x8");
        Check.is("9 times", graphOf("vertices 2;edge 0 1 9;"), "0-1x9");
        Judge.fault("vertices 2;edge 0 1 10;", 3, 20);
        Check.is("loop", graphOf("vertices 2;edge 1 1;"), "1-1");
        Check.is("9 loops", graphOf("vertices 2;edge 0 0 9;"), "0-0x9");
        Check.is("U greater than V", graphOf("vertices 2;edge 1 0 3;"), "0-1x3");
        Check.is("adds to those there", graphOf("vertices 2;edge 1 0 3;edge 0 1;"), "0-1x4");
        Check.is("not to the target", targetOf("vertices 2;edge 1 0 3;"), "");
    }

    private static void statementTarget() {
        SwitchGraphs none = Texts.of("vertices 2;target 0 1;");
        Texts.load(none, "vertices 3;edge 0 1;");
        Check.is("no edges at first", none.edges(true), 0);
        Check.is("none with degrees", Texts.of("degrees 3 3;").edges(true), 0);
        SwitchGraphs degrees = Texts.of("vertices 2;target 0 1;");
        Texts.load(degrees, "degrees 1 1;");
        Check.is("none with degrees behind a target", degrees.edges(true), 0);
        SwitchGraphs behindBad = new SwitchGraphs();
        Texts.load(behindBad, "vertices 2;edge 0 1;target 0 1;mode 2;#");
        Texts.load(behindBad, "degrees 1 1;target 1 1;");
        Check.is("those of a bad text are none", View.graphs(behindBad),
                View.graphs(Texts.of("degrees 1 1;target 1 1;")));
        SwitchGraphs same = Texts.of("degrees 0 0 0;target 0 2;");
        Check.is("the first vertex of the degrees", same.degree(0, true), 1);
        Check.is("the last vertex of the degrees", same.degree(2, true), 1);
        Judge.fault("vertices 2;target 0 1 0;", 3, 22);
        Check.is("without TIMES", targetOf("vertices 2;target 0 1;"), "0-1");
        Check.is("9 times", targetOf("vertices 2;target 1 0 9;"), "0-1x9");
        Judge.fault("vertices 2;target 0 1 10;", 3, 22);
        Check.is("loop", targetOf("vertices 2;target 1 1 2;"), "1-1x2");
        Check.is("not to the graph", graphOf("vertices 2;target 1 0 3;"), "");
        Refused.vertex("the same vertices", "vertices 2;target 0 1;", 1,
                (x, v) -> x.degree(v, true));
    }

    private static void sixteenEdges() {
        for (String word : new String[] {"edge", "target"}) {
            String fifteen = "vertices 2;" + word + " 0 0 9;" + word + " 0 1 6;";
            boolean isTarget = word.equals("target");
            Check.is("15", Texts.of(fifteen).edges(isTarget), 15);
            Check.is("16", Texts.of(fifteen + word + " 1 1;").edges(isTarget), 16);
            Judge.faultBehind(fifteen + word + " 1 1 ", "2;", 5);
            Judge.faultBehind(fifteen + word + " 1 1;" + word + " 1 1", ";", 5);
        }
        SwitchGraphs x = Texts.of("vertices 2;" + SIXTEEN + SIXTEEN_IN_TARGET);
        Check.is("16 each", x.edges(false) + x.edges(true), 32);
        Judge.faultBehind("vertices 2;" + SIXTEEN + SIXTEEN_IN_TARGET + "edge 0 0", ";", 5);
        Judge.faultBehind("vertices 2;" + SIXTEEN + SIXTEEN_IN_TARGET + "target 0 0", ";", 5);
        Check.is("a full graph leaves the target alone",
                Texts.of("vertices 2;" + SIXTEEN + "target 0 0 9;").edges(true), 9);
        Check.is("a full target leaves the graph alone",
                Texts.of("vertices 2;" + SIXTEEN_IN_TARGET + "edge 0 0 9;").edges(false), 9);
        Check.is("16 by degrees", Texts.of("degrees 16 16;").edges(false), 16);
        Judge.faultBehind("degrees 16 16;edge 0 0", ";", 5);
        Check.is("15 by degrees and one", Texts.of("degrees 16 14;edge 0 0;").edges(false), 16);
        Refused.call("a 17th edge later", Texts.STATE, "degrees 16 16;", y -> y.addEdge(0, 0));
    }

    private static void statementMode() {
        SwitchGraphs x = Texts.of("vertices 1;mode 2;");
        Texts.load(x, "vertices 1;");
        Check.is("0 without it", x.mode(), 0);
        for (int mode = 0; mode <= 2; mode++) {
            Check.is("mode " + mode, Texts.of("vertices 1;mode " + mode + ";").mode(), mode);
            Check.is("mode 0" + mode, Texts.of("degrees 0;mode 0" + mode + ";").mode(), mode);
        }
        Judge.fault("vertices 1;mode 3;", 3, 16);
        Judge.fault("vertices 1;mode 10;", 3, 16);
        Check.is("repeated", Texts.of("vertices 1;mode 1;mode 2;").mode(), 2);
        Check.is("repeated with 0", Texts.of("vertices 1;mode 2;mode 0;").mode(), 0);
        Check.is("three times", Texts.of("vertices 1;mode 1;mode 2;edge 0 0;mode 1;").mode(), 1);
        Judge.fault("vertices 1;mode 1;mode 3;mode 2;", 3, 23);
    }
}
