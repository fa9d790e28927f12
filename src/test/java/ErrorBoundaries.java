/** Promises 3 to 5, at the boundaries of texts that are not legal. */
final class ErrorBoundaries {
    private static final String SIXTEEN = Judge.SIXTEEN;
    private static final String SIXTEEN_IN_TARGET = Judge.SIXTEEN_IN_TARGET;

    private ErrorBoundaries() {
    }

    static void run() {
        errors();
        kindsOfErrors();
    }

    // ---- errors

    private static void errors() {
        Sentence.test("Promise 3, TEXT",
                "The error of a text is its first token, from left to right, that cannot be"
                        + " continued to a legal text",
                ErrorBoundaries::firstError);
        Sentence.test("Promise 3, TEXT",
                "tokens are judged one by one (a token counts as right even if no legal one can"
                        + " follow it).",
                ErrorBoundaries::tokensOneByOne);
        Sentence.test("Promise 5, TEXT", "The position of an error is the first byte of its token.",
                ErrorBoundaries::positionOfError);
        Sentence.test("Promise 5, TEXT",
                "If the text ends too early, the error is of kind 2, and its position is the"
                        + " length of the text.",
                ErrorBoundaries::earlyEnd);
        Sentence.test("Promise 4, TEXT",
                "If two kinds apply to one token, the smaller kind is reported.",
                ErrorBoundaries::twoKinds);
    }

    private static void firstError() {
        Judge.fault("vertices 9 #;", 3, 9);
        Judge.fault("vertices # 9;", 1, 9);
        Judge.fault("vertices x 9;", 2, 9);
        Judge.fault("# vertices 9;", 1, 0);
        Judge.fault("vertices 2;edge 2 2 10;", 3, 16);
        Judge.fault("vertices 2;edge 1 2 10;", 3, 18);
        Judge.fault("vertices 2;edge 1 1 10;", 3, 20);
        Judge.fault("vertices 2;edge 1 1 9", 2, 21);
        Judge.fault("degrees 33 33;", 3, 8);
        Judge.fault("degrees 32 33;", 3, 11);
        Judge.fault("degrees 1;mode 3;", 4, 9);
        Judge.fault("vertices 2;mode 3;vertices", 3, 16);
        Judge.fault("vertices 2;mode 2;vertices", 2, 18);
    }

    private static void tokensOneByOne() {
        // The sum is too great with the second D; it is the semicolon that is wrong.
        Judge.fault("degrees 32 32 32 ;", 4, 17);
        Judge.fault("degrees 1 0 ;", 4, 12);
        Judge.fault("degrees 32 32 32", 2, 16);
        Judge.fault("degrees 32 32 32 x", 2, 17);
        // No edge can be added any more; "edge", U and V are right all the same.
        String full = "vertices 2;" + SIXTEEN;
        Judge.faultBehind(full + "edge", "", 2);
        Judge.faultBehind(full + "edge 1", "", 2);
        Judge.faultBehind(full + "edge 1 1", "", 2);
        Judge.faultBehind(full + "edge 1 1", ";", 5);
        Judge.faultBehind(full + "edge 1 1 ", "1", 5);
        Judge.faultBehind(full + "edge ", "2", 3);
        Judge.faultBehind(full + "edge 1 ", "2", 3);
        // V is no TIMES, and 9 edges with it are not too many before the semicolon is missing.
        Judge.faultBehind("vertices 2;edge 0 1 9", "", 2);
    }

    private static void positionOfError() {
        Judge.fault("verticez 1;", 2, 0);
        Judge.fault(" verticez 1;", 2, 1);
        Judge.fault("vertices  99;", 3, 10);
        Judge.fault("vertices 1;\n\nmodus 1;", 2, 13);
        Judge.fault("vertices 1;mode  111;", 1, 17);
        Judge.faultBehind(" ".repeat(399), "#", 1);
        Judge.faultBehind(" ".repeat(398), "# ", 1);
        Judge.faultBehind(" ".repeat(392), "verticez", 2);
        Judge.faultBehind("vertices 1;" + " ".repeat(388), ";", 2);
        // A byte beyond the length is no part of the token.
        cut("verticesx 1;", 8, 2, 8);
        cut("vertices 10;", 10, 2, 10);
        cut("vertices 100;", 11, 3, 9);
        cut("vertices 1 ;", 10, 2, 10);
        cut("vertices 1;", 10, 2, 10);
    }

    private static void cut(String text, int length, int kind, int position) {
        SwitchGraphs x = new SwitchGraphs();
        Texts.feed(x, text);
        Check.is(length + " bytes of " + text, x.load(length), SwitchGraphs.BAD_TEXT);
        Check.is("kind in " + length + " bytes of " + text, x.errorKind(), kind);
        Check.is("position in " + length + " bytes of " + text, x.errorPosition(), position);
    }

    private static void earlyEnd() {
        Judge.legal("");
        String[] cut = {"vertices", "vertices 1", "degrees", "degrees 0", "degrees 0 0",
            "vertices 1;edge", "vertices 1;edge 0", "vertices 1;edge 0 0",
            "vertices 1;edge 0 0 1", "vertices 1;target", "vertices 1;target 0",
            "vertices 1;target 0 0", "vertices 1;target 0 0 1", "vertices 1;mode",
            "vertices 1;mode 0"};
        for (String text : cut) {
            Judge.faultBehind(text, "", 2);
            Judge.faultBehind(text + " ", "", 2);
            Judge.faultBehind(text + "\n ", "", 2);
            Judge.faultBehind(text + " ".repeat(399 - text.length()), "", 2);
            Judge.faultBehind(text + " ".repeat(400 - text.length()), "", 2);
        }
        Judge.legal("vertices 1;mode 0;");
        Judge.legal("degrees 0 0;");
        Judge.legal("vertices 1;target 0 0 1;");
        // With degrees that no semicolon may follow, and a graph that is full, too.
        Judge.fault("degrees 1", 2, 9);
        Judge.faultBehind("vertices 2;" + SIXTEEN + "edge 0 0", "", 2);
    }

    private static void twoKinds() {
        String eight = "degrees 0 0 0 0 0 0 0 0 ";
        // A 9th D: 5 alone, with 3, and an illegal token in its place.
        Judge.faultBehind(eight, "32;", 5);
        Judge.faultBehind(eight, "33;", 3);
        Judge.faultBehind(eight, "333;", 1);
        // TIMES: 5 alone, with 3, and an illegal token in its place.
        String full = "vertices 2;" + SIXTEEN;
        Judge.faultBehind(full + "edge 0 0 ", "9;", 5);
        Judge.faultBehind(full + "edge 0 0 ", "10;", 3);
        Judge.faultBehind(full + "edge 0 0 ", "100;", 1);
        String target = "vertices 2;" + SIXTEEN_IN_TARGET;
        Judge.faultBehind(target + "target 0 0 ", "9;", 5);
        Judge.faultBehind(target + "target 0 0 ", "10;", 3);
        // A token that is illegal is not the expected one, either.
        Judge.faultBehind("vertices ", "-1;", 1);
        Judge.faultBehind("vertices ", "x;", 2);
        Judge.faultBehind("vertices 1", ",", 1);
        Judge.faultBehind("vertices 1;", "EDGE", 1);
        // An odd sum greater than 32 is of kind 4 twice.
        Judge.faultBehind("degrees 32 1", ";", 4);
    }

    private static void kindsOfErrors() {
        Sentence.test("Promise 4, TEXT", "1 illegal token;", ErrorBoundaries::kind1);
        Sentence.test("Promise 4, TEXT", "2 another token was expected;", ErrorBoundaries::kind2);
        Sentence.test("Promise 4, TEXT", "3 a number is out of range (also U or V of no vertex);",
                ErrorBoundaries::kind3);
        Sentence.test("Promise 4, TEXT",
                "4 the semicolon behind degrees whose sum is odd or greater than 32;",
                ErrorBoundaries::kind4);
        Sentence.test("Promise 4, TEXT",
                "5 a 9th D, TIMES (or without it the semicolon) of an edge with which a graph would"
                        + " have more than 16 edges.",
                ErrorBoundaries::kind5);
    }

    private static final String[] BEFORE_A_TOKEN = {"", "vertices ", "vertices 1 ", "degrees ",
        "degrees 0 ", "vertices 1;", "vertices 1;edge ", "vertices 1;edge 0 ",
        "vertices 1;edge 0 0 ", "vertices 1;edge 0 0 1 ", "vertices 1;target ",
        "vertices 1;target 0 ", "vertices 1;target 0 0 ", "vertices 1;target 0 0 1 ",
        "vertices 1;mode ", "vertices 1;mode 0 "};

    private static void kind1() {
        for (String beginning : BEFORE_A_TOKEN) {
            Judge.faultBehind(beginning, "#", 1);
            Judge.faultBehind(beginning, "123", 1);
            Judge.faultBehind(beginning, "abcdefghi", 1);
        }
    }

    private static void kind2() {
        for (String beginning : BEFORE_A_TOKEN) {
            Judge.faultBehind(beginning, "abcdefgh", 2);
        }
        String[] noNumber = {"", "vertices 1 ", "vertices 1;", "vertices 1;edge 0 0 1 ",
            "vertices 1;target 0 0 1 ", "vertices 1;mode 0 "};
        for (String beginning : noNumber) {
            Judge.faultBehind(beginning, "1", 2);
        }
        String[] noSemicolon = {"", "vertices ", "degrees ", "vertices 1;", "vertices 1;edge ",
            "vertices 1;edge 0 ", "vertices 1;target ", "vertices 1;target 0 ",
            "vertices 1;mode "};
        for (String beginning : noSemicolon) {
            Judge.faultBehind(beginning, ";", 2);
        }
    }

    private static void kind3() {
        Judge.faultBehind("vertices ", "0;", 3);
        Judge.legal("vertices 1;");
        Judge.legal("vertices 8;");
        Judge.faultBehind("vertices ", "9;", 3);
        Judge.legal("degrees 32;");
        Judge.faultBehind("degrees ", "33;", 3);
        Judge.legal("vertices 1;mode 2;");
        Judge.faultBehind("vertices 1;mode ", "3;", 3);
        for (String word : new String[] {" edge ", " target "}) {
            ofNoVertex("vertices 1;" + word, 0);
            ofNoVertex("vertices 7;" + word, 6);
            ofNoVertex("vertices 8;" + word, 7);
            ofNoVertex("degrees 0 0 0;" + word, 2);
            Judge.faultBehind("vertices 1;" + word + "0 0 ", "0;", 3);
            Judge.legal("vertices 1;" + word + "0 0 1;");
            Judge.legal("vertices 1;" + word + "0 0 9;");
            Judge.faultBehind("vertices 1;" + word + "0 0 ", "10;", 3);
        }
    }

    private static void ofNoVertex(String beginning, int last) {
        int behind = last + 1;
        Judge.legal(beginning + last + " 0;");
        Judge.legal(beginning + "0 " + last + ";");
        Judge.legal(beginning + last + " " + last + ";");
        Judge.faultBehind(beginning, behind + " 0;", 3);
        Judge.faultBehind(beginning + "0 ", behind + ";", 3);
        Judge.faultBehind(beginning, "99 0;", 3);
    }

    private static void kind4() {
        Judge.legal("degrees 0;");
        Judge.fault("degrees 1;", 4, 9);
        Judge.legal("degrees 2;");
        Judge.legal("degrees 15 15;");
        Judge.fault("degrees 15 16;", 4, 13);
        Judge.legal("degrees 16 16;");
        Judge.fault("degrees 16 17;", 4, 13);
        Judge.fault("degrees 17 17;", 4, 13);
        Judge.fault("degrees 31;", 4, 10);
        Judge.legal("degrees 32;");
        Judge.fault("degrees 32 1;", 4, 12);
        Judge.fault("degrees 32 2;", 4, 12);
        Judge.fault("degrees 32 32 32 32 32 32 32 32;", 4, 31);
        Judge.legal("degrees 4 4 4 4 4 4 4 4;");
        Judge.fault("degrees 4 4 4 4 4 4 4 5;", 4, 23);
        Judge.fault("degrees 4 4 4 4 4 4 4 6;", 4, 23);
    }

    private static void kind5() {
        Judge.legal("degrees 1 1 1 1 1 1 1 1;");
        Judge.faultBehind("degrees 1 1 1 1 1 1 1 1 ", "1;", 5);
        Judge.faultBehind("degrees 1 1 1 1 1 1 1 1 ", "0", 5);
        for (String word : new String[] {"edge", "target"}) {
            String seven = "vertices 2;" + word + " 0 1 7;" + word + " 1 1 ";
            Judge.legal(seven + "8;");
            Judge.legal(seven + "9;");
            String eight = "vertices 2;" + word + " 0 1 8;" + word + " 1 1 ";
            Judge.legal(eight + "8;");
            Judge.faultBehind(eight, "9;", 5);
            String all = "vertices 2;" + word + " 0 1 8;" + word + " 1 1 8;";
            Judge.legal(all);
            Judge.faultBehind(all + word + " 0 0 ", "1;", 5);
            Judge.faultBehind(all + word + " 0 0", ";", 5);
            Judge.faultBehind(all + word + " 0 0 ", ";", 5);
        }
        Judge.legal("degrees 32;");
        Judge.faultBehind("degrees 32;edge 0 0", ";", 5);
        Judge.legal("degrees 32;target 0 0;");
    }
}
