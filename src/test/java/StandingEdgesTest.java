/** Edges of "Terms" 3 (APART, WIDTH), 4 and promises 11, 12, 27, 32 to 34, 38 to 41. */
public final class StandingEdgesTest {
    private static final String SIGNS = "sign a 0;sign b 0;sign f 2;sign g 1;sign h 3;var x;var y;";
    private static final String TEXT = SIGNS + "rule p f(x,y);rule q f(y,x);rule r f(a,b);";
    private static final int[] OFF = {-2, -16, 16, 17, 31, 32, 33, 64, 100, Integer.MIN_VALUE, Integer.MAX_VALUE};

    public static void main(String[] args) {
        noSuchRule();
        takenAndPutTwice();
        nodesThatGoAndCome();
        noDeadBranch();
        sixteenRulesTaken();
        undoOfNone();
        refusedTurnsAreNotUndone();
        twentyAtMost();
        undoTurnsBoth();
        undoIsNotUndone();
        noImage();
        imageInPlaceOfOne();
        imageOfNoneIn();
        backLeavesNothingToUndo();
        branchLengths();
        branchNumbers();
        widths();
        sixteenWide();
        orderNumbers();
        orderOfPaths();
        apartWhat();
        apartPlaces();
        apartEnds();
        apartOfNone();
        countWhat();
        Due.end("StandingEdgesTest");
    }

    private static String deep(int places, String leaf) {
        return Due.repeated("g(", places - 1) + leaf + Due.repeated(")", places - 1);
    }

    /** Sixteen rules of one and the same term. */
    private static String sixteen(String term) {
        StringBuilder text = new StringBuilder(SIGNS);
        for (char name = 'a'; name <= 'p'; name++) {
            text.append("rule ").append(name).append(' ').append(term).append(';');
        }
        return text.toString();
    }

    /** take, put: "NONE: no such RULE". */
    private static void noSuchRule() {
        TermShelf shelf = Due.shelf(TEXT);
        Due.due("take(-1)", shelf.take(-1), Due.NONE);
        Due.due("take(3)", shelf.take(3), Due.NONE);
        Due.due("put(-1)", shelf.put(-1), Due.NONE);
        Due.due("put(3)", shelf.put(3), Due.NONE);
        for (int rule : OFF) {
            Due.due("take(" + rule + ")", shelf.take(rule), Due.NONE);
            Due.due("put(" + rule + ")", shelf.put(rule), Due.NONE);
        }
        Due.due("all are in", shelf.count(3), 3);
        Due.due("nothing to undo", shelf.count(10), 0);
        Due.due("take(2)", shelf.take(2), 2);
        Due.due("put(2)", shelf.put(2), 2);
        TermShelf none = new TermShelf();
        Due.due("take(0) of none", none.take(0), Due.NONE);
        Due.due("put(0) of none", none.put(0), Due.NONE);
        TermShelf all = Due.shelf(sixteen("x"));
        Due.due("take(15) of 16", all.take(15), 0);
        Due.due("put(15) of 16", all.put(15), 0);
        Due.due("take(16) of 16", all.take(16), Due.NONE);
        Due.due("put(16) of 16", all.put(16), Due.NONE);
    }

    /** take: "-2: it isn't IN"; put: "-2: it is". */
    private static void takenAndPutTwice() {
        TermShelf shelf = Due.shelf(TEXT);
        Due.due("put that is in", shelf.put(2), Due.MISSING);
        Due.due("take", shelf.take(2), 2);
        Due.due("take again", shelf.take(2), Due.MISSING);
        Due.due("take again", shelf.take(2), Due.MISSING);
        Due.due("it is out", shelf.rule(2, 3), 0);
        Due.due("put", shelf.put(2), 2);
        Due.due("put again", shelf.put(2), Due.MISSING);
        Due.due("it is in", shelf.rule(2, 3), 1);
        Due.due("the others too", shelf.count(3), 3);
    }

    /** "how many NODES went", "came": none while another rule has the path, all with the last one. */
    private static void nodesThatGoAndCome() {
        TermShelf shelf = Due.shelf(TEXT);
        Due.due("nodes", shelf.count(4), 5);
        Due.due("take p, q has its path", shelf.take(0), 0);
        Due.due("take q, r has its first code", shelf.take(1), 2);
        Due.due("nodes", shelf.count(4), 3);
        Due.due("take r, nothing is left", shelf.take(2), 3);
        Due.due("nodes", shelf.count(4), 0);
        Due.due("put q, nothing was there", shelf.put(1), 3);
        Due.due("put p", shelf.put(0), 0);
        Due.due("put r", shelf.put(2), 2);
        Due.due("nodes", shelf.count(4), 5);
        TermShelf one = Due.shelf(SIGNS + "rule p " + deep(12, "a") + ";rule q " + deep(12, "b") + ";");
        Due.due("nodes of two long paths", one.count(4), 13);
        Due.due("take the last code alone", one.take(0), 1);
        Due.due("take all twelve", one.take(1), 12);
        Due.due("put all twelve", one.put(0), 12);
        Due.due("put the last code alone", one.put(1), 1);
    }

    /** "rules taken out so that no dead branch is left". */
    private static void noDeadBranch() {
        TermShelf shelf = Due.shelf(SIGNS + "rule p f(a,g(b));rule q f(a,g(x));rule r f(x,b);", "f(a,g(b))");
        Due.due("leaves", shelf.count(5), 3);
        Due.due("visited", shelf.finding(0, 2), 6);
        Due.due("take p", shelf.take(0), 1);
        Due.due("take q", shelf.take(1), 3);
        Due.due("leaves then", shelf.count(5), 1);
        Due.due("visited then", shelf.finding(0, 2), 2);
        Due.due("width(1) then", shelf.width(1), 1);
        Due.due("branch(2, 0) then", shelf.branch(2, 0), 100);
        Due.due("the longest path then", shelf.count(8), 3);
    }

    private static void sixteenRulesTaken() {
        TermShelf shelf = Due.shelf(sixteen("g(x)"));
        for (int rule = 0; rule < 16; rule++) {
            Due.due("take(" + rule + ")", shelf.take(rule), rule == 15 ? 2 : 0);
            Due.due("in then", shelf.count(3), 15 - rule);
            Due.due("order(0) then", shelf.order(0), rule == 15 ? Due.MISSING : rule + 1);
        }
        for (int rule = 15; rule >= 0; rule--) {
            Due.due("put(" + rule + ")", shelf.put(rule), rule == 15 ? 2 : 0);
            Due.due("order(0) then", shelf.order(0), rule);
        }
    }

    /** undo: "NONE: none". */
    private static void undoOfNone() {
        TermShelf shelf = Due.shelf(TEXT);
        Due.due("undo of none", shelf.undo(), Due.NONE);
        Due.due("none still", shelf.count(10), 0);
        shelf.take(0);
        Due.due("undo of one", shelf.undo(), 0);
        Due.due("undo of none", shelf.undo(), Due.NONE);
        Due.due("undo of none", shelf.undo(), Due.NONE);
        Due.due("all are in", shelf.count(3), 3);
        Due.due("none still", shelf.count(10), 0);
    }

    /** What is refused, and the QUERY, is not undone. */
    private static void refusedTurnsAreNotUndone() {
        TermShelf shelf = Due.shelf(TEXT);
        shelf.put(0);
        shelf.take(3);
        shelf.put(-1);
        Due.due("none", shelf.count(10), 0);
        shelf.take(1);
        shelf.take(1);
        shelf.take(32);
        Due.ask(shelf, "a");
        shelf.draw(1);
        shelf.keep();
        Due.due("one", shelf.count(10), 1);
        int places = shelf.count(7);
        Due.due("undo", shelf.undo(), 0);
        Due.due("q is in", shelf.rule(1, 3), 1);
        Due.due("the query stays", shelf.count(7), places);
    }

    /** "(20 at most)": with 19, 20, 21 and 40 turns. */
    private static void twentyAtMost() {
        for (int turns : new int[] {1, 19, 20, 21, 22, 39, 40, 41}) {
            TermShelf shelf = Due.shelf(TEXT);
            for (int turn = 1; turn <= turns; turn++) {
                int rule = turn % 3;
                int answer = shelf.rule(rule, 3) == 1 ? shelf.take(rule) : shelf.put(rule);
                Due.due("turn " + turn + " is done", answer >= 0 ? 1 : 0, 1);
                Due.due("behind turn " + turn, shelf.count(10), Math.min(20, turn));
            }
            int undone = Math.min(20, turns);
            for (int i = 1; i <= undone; i++) {
                Due.due("undo " + i + " of " + turns, shelf.undo(), undone - i);
            }
            Due.due("undo beyond", shelf.undo(), Due.NONE);
            for (int rule = 0; rule < 3; rule++) {
                Due.due("rule " + rule, shelf.rule(rule, 3), 1 - turnsOf(rule, turns - undone) % 2);
            }
        }
    }

    private static int turnsOf(int rule, int turns) {
        int of = 0;
        for (int turn = 1; turn <= turns; turn++) {
            of += turn % 3 == rule ? 1 : 0;
        }
        return of;
    }

    private static void undoTurnsBoth() {
        TermShelf shelf = Due.shelf(TEXT);
        shelf.take(2);
        shelf.take(1);
        shelf.put(2);
        Due.due("undo put", shelf.undo(), 2);
        Due.due("r is out", shelf.rule(2, 3), 0);
        Due.due("nodes without r", shelf.count(4), 3);
        Due.due("undo take", shelf.undo(), 1);
        Due.due("q is in", shelf.rule(1, 3), 1);
        Due.due("undo take", shelf.undo(), 0);
        Due.due("r is in", shelf.rule(2, 3), 1);
        Due.due("nodes with r", shelf.count(4), 5);
    }

    private static void undoIsNotUndone() {
        TermShelf shelf = Due.shelf(TEXT);
        shelf.take(0);
        shelf.take(1);
        Due.due("undo", shelf.undo(), 1);
        Due.due("one is left", shelf.count(10), 1);
        Due.due("undo", shelf.undo(), 0);
        Due.due("none is left", shelf.undo(), Due.NONE);
        shelf.take(2);
        Due.due("one is there", shelf.count(10), 1);
    }

    /** back: "NONE: there is none". */
    private static void noImage() {
        TermShelf shelf = Due.shelf(TEXT);
        shelf.take(0);
        Due.due("back without an image", shelf.back(), Due.NONE);
        Due.due("what is in stays", shelf.count(3), 2);
        Due.due("what can be undone stays", shelf.count(10), 1);
        Due.due("keep", shelf.keep(), 2);
        Due.due("back", shelf.back(), 2);
        Due.told(shelf, TEXT);
        Due.due("back behind a text", shelf.back(), Due.NONE);
        Due.due("all are in", shelf.count(3), 3);
    }

    /** keep: "(in place of one ahead)". */
    private static void imageInPlaceOfOne() {
        TermShelf shelf = Due.shelf(TEXT);
        Due.due("keep of all", shelf.keep(), 3);
        shelf.take(0);
        Due.due("keep without p", shelf.keep(), 2);
        shelf.take(1);
        Due.due("back", shelf.back(), 2);
        Due.due("p is out", shelf.rule(0, 3), 0);
        Due.due("q is in", shelf.rule(1, 3), 1);
        Due.due("back again", shelf.back(), 2);
        Due.due("p is out still", shelf.rule(0, 3), 0);
    }

    private static void imageOfNoneIn() {
        TermShelf shelf = Due.shelf(TEXT);
        for (int rule = 0; rule < 3; rule++) {
            shelf.take(rule);
        }
        Due.due("keep of none in", shelf.keep(), 0);
        shelf.put(1);
        Due.due("back to none in", shelf.back(), 0);
        Due.due("none is in", shelf.count(3), 0);
        Due.due("no nodes", shelf.count(4), 0);
        TermShelf all = Due.shelf(sixteen("a"));
        Due.due("keep of sixteen", all.keep(), 16);
        all.take(15);
        all.take(0);
        Due.due("back to sixteen", all.back(), 16);
        Due.due("rule 15 is in", all.rule(15, 3), 1);
    }

    /** back: "(the QUERY stays; nothing to undo then)"; keep leaves what can be undone. */
    private static void backLeavesNothingToUndo() {
        TermShelf shelf = Due.shelf(TEXT, "f(a,x)");
        shelf.take(0);
        shelf.keep();
        Due.due("keep leaves it", shelf.count(10), 1);
        shelf.take(1);
        Due.due("back", shelf.back(), 2);
        Due.due("nothing to undo", shelf.count(10), 0);
        Due.due("undo", shelf.undo(), Due.NONE);
        Due.due("p is out", shelf.rule(0, 3), 0);
        Due.due("the query stays", shelf.asked(2), 100);
        Due.due("put p", shelf.put(0), 0);
        Due.due("undo it", shelf.undo(), 0);
        Due.due("p is out", shelf.rule(0, 3), 0);
    }

    /** branch: "of a length 1 .. 12", "NONE: no such length". */
    private static void branchLengths() {
        TermShelf shelf = Due.shelf(SIGNS + "rule p " + deep(12, "b") + ";");
        Due.due("branch(0, 0)", shelf.branch(0, 0), Due.NONE);
        for (int length = 1; length <= 11; length++) {
            Due.due("branch(" + length + ", 0)", shelf.branch(length, 0), 3);
            Due.due("branch(" + length + ", 1)", shelf.branch(length, 1), Due.MISSING);
        }
        Due.due("branch(12, 0)", shelf.branch(12, 0), 1);
        Due.due("branch(12, 1)", shelf.branch(12, 1), Due.MISSING);
        Due.due("branch(13, 0)", shelf.branch(13, 0), Due.NONE);
        Due.due("branch(-1, 0)", shelf.branch(-1, 0), Due.NONE);
        Due.due("branch(MIN, 0)", shelf.branch(Integer.MIN_VALUE, 0), Due.NONE);
        Due.due("branch(MAX, 0)", shelf.branch(Integer.MAX_VALUE, 0), Due.NONE);
        Due.due("branch(13, -1)", shelf.branch(13, -1), Due.NONE);
        TermShelf shorter = Due.shelf(SIGNS + "rule p " + deep(11, "b") + ";");
        Due.due("branch(11, 0)", shorter.branch(11, 0), 1);
        Due.due("branch(12, 0) of eleven", shorter.branch(12, 0), Due.MISSING);
    }

    /** branch: "-2: there are no so many; NONE: .. k is below 0". */
    private static void branchNumbers() {
        TermShelf shelf = Due.shelf(SIGNS + "rule p h(a,a,a);rule q x;rule r g(a);rule s b;rule t a;rule u f(a,a);");
        int[] codes = {100, 0, 1, 2, 3, 4};
        Due.due("branch(1, -1)", shelf.branch(1, -1), Due.NONE);
        for (int k = 0; k < codes.length; k++) {
            Due.due("branch(1, " + k + ")", shelf.branch(1, k), codes[k]);
        }
        Due.due("branch(1, 6)", shelf.branch(1, 6), Due.MISSING);
        Due.due("branch(1, MAX)", shelf.branch(1, Integer.MAX_VALUE), Due.MISSING);
        Due.due("branch(1, MIN)", shelf.branch(1, Integer.MIN_VALUE), Due.NONE);
        shelf.take(1);
        Due.due("branch(1, 0) without q", shelf.branch(1, 0), 0);
        Due.due("branch(1, 5) without q", shelf.branch(1, 5), Due.MISSING);
        for (int rule = 0; rule < 6; rule++) {
            shelf.take(rule);
        }
        Due.due("branch(1, 0) of none", shelf.branch(1, 0), Due.MISSING);
    }

    /** "WIDTH of a depth 0 .. 11", "NONE: no such depth". */
    private static void widths() {
        TermShelf shelf = Due.shelf(SIGNS + "rule p " + deep(12, "b") + ";rule q " + deep(11, "b") + ";rule r a;");
        int[] want = {2, 1, 1, 1, 1, 1, 1, 1, 1, 1, 2, 1};
        for (int depth = 0; depth <= 11; depth++) {
            Due.due("width(" + depth + ")", shelf.width(depth), want[depth]);
        }
        for (int depth : new int[] {-1, 12, 13, -12, Integer.MIN_VALUE, Integer.MAX_VALUE}) {
            Due.due("width(" + depth + ")", shelf.width(depth), Due.NONE);
        }
        shelf.take(0);
        Due.due("width(11) without p", shelf.width(11), 0);
        Due.due("width(10) without p", shelf.width(10), 1);
        Due.due("width(0) of a new object", new TermShelf().width(0), 0);
        Due.due("width(11) of a new object", new TermShelf().width(11), 0);
        Due.due("width(12) of a new object", new TermShelf().width(12), Due.NONE);
        Due.due("width(-1) of a new object", new TermShelf().width(-1), Due.NONE);
    }

    private static void sixteenWide() {
        StringBuilder text = new StringBuilder(SIGNS);
        String[] leaves = {"x", "a", "b", "g(a)"};
        for (int i = 0; i < 16; i++) {
            text.append("rule ").append((char) ('a' + i)).append(" f(").append(leaves[i / 4]).append(',')
                    .append(leaves[i % 4]).append(");");
        }
        TermShelf shelf = Due.shelf(text.toString());
        Due.due("width(0)", shelf.width(0), 1);
        Due.due("width(1)", shelf.width(1), 4);
        Due.due("width(2)", shelf.width(2), 13);
        Due.due("width(3)", shelf.width(3), 7);
        Due.due("width(4)", shelf.width(4), 1);
        Due.due("width(5)", shelf.width(5), 0);
        Due.due("nodes", shelf.count(4), 26);
        Due.due("leaves", shelf.count(5), 16);
        for (int k = 0; k < 16; k++) {
            Due.due("order(" + k + ")", shelf.order(k), k);
        }
        Due.due("order(16)", shelf.order(16), Due.MISSING);
    }

    /** order: "-2: there are no so many; NONE: k is below 0". */
    private static void orderNumbers() {
        TermShelf shelf = Due.shelf(TEXT);
        Due.due("order(-1)", shelf.order(-1), Due.NONE);
        Due.due("order(MIN)", shelf.order(Integer.MIN_VALUE), Due.NONE);
        Due.due("order(0)", shelf.order(0), 0);
        Due.due("order(2)", shelf.order(2), 2);
        Due.due("order(3)", shelf.order(3), Due.MISSING);
        Due.due("order(16)", shelf.order(16), Due.MISSING);
        Due.due("order(MAX)", shelf.order(Integer.MAX_VALUE), Due.MISSING);
        shelf.take(1);
        Due.due("order(1) without q", shelf.order(1), 2);
        Due.due("order(2) without q", shelf.order(2), Due.MISSING);
        shelf.take(0);
        shelf.take(2);
        Due.due("order(0) of none in", shelf.order(0), Due.MISSING);
        Due.due("order(-1) of none in", shelf.order(-1), Due.NONE);
    }

    /** "STAR ahead of all SIGNS, SIGNS by numbers; alike PATHS by RULES' numbers". */
    private static void orderOfPaths() {
        TermShelf shelf = Due.shelf("sign b 0;sign a 0;sign f 2;var y;var x;rule p f(a,a);rule q f(a,b);rule r f(a,y);"
                + "rule s f(b,a);rule t f(b,x);rule u f(y,a);rule v f(y,b);rule w f(y,y);rule x f(y,x);rule y f(x,y);"
                + "rule z a;rule a b;rule b x;rule c y;");
        int[] want = {12, 13, 11, 10, 7, 8, 9, 6, 5, 4, 3, 2, 1, 0};
        for (int k = 0; k < want.length; k++) {
            Due.due("order(" + k + ")", shelf.order(k), want[k]);
        }
        TermShelf far = Due.shelf("sign a 0;sign b 0;sign c 0;sign d 0;sign e 0;sign i 0;sign g 1;sign f 2;var w;var x;"
                + "var y;var z;rule p f(g(i),g(i));rule q f(g(i),g(z));rule r g(z);rule s z;rule t g(a);rule u i;");
        int[] then = {3, 5, 2, 4, 1, 0};
        for (int k = 0; k < then.length; k++) {
            Due.due("order(" + k + ") of far codes", far.order(k), then[k]);
        }
    }

    /** apart: "NONE for another what". */
    private static void apartWhat() {
        TermShelf shelf = Due.shelf(TEXT);
        Due.due("apart(-1)", shelf.apart(-1), Due.NONE);
        Due.due("apart(0)", shelf.apart(0), 1);
        Due.due("apart(1)", shelf.apart(1), 2);
        Due.due("apart(2)", shelf.apart(2), Due.NONE);
        Due.due("apart(MIN)", shelf.apart(Integer.MIN_VALUE), Due.NONE);
        Due.due("apart(MAX)", shelf.apart(Integer.MAX_VALUE), Due.NONE);
    }

    private static void apart(String rules, int place, int largest) {
        TermShelf shelf = Due.shelf(SIGNS + rules);
        Due.due("apart(0) of: " + rules, shelf.apart(0), place);
        Due.due("apart(1) of: " + rules, shelf.apart(1), largest);
    }

    /** "of the first 12 places", "the first of several". */
    private static void apartPlaces() {
        for (int places = 1; places <= 12; places++) {
            apart("rule p " + deep(places, "a") + ";rule q " + deep(places, "b") + ";", places - 1, 1);
        }
        apart("rule p " + deep(12, "x") + ";rule q " + deep(12, "y") + ";", 0, 2);
        apart("rule p " + deep(12, "x") + ";rule q " + deep(12, "a") + ";", 11, 1);
        apart("rule p f(a,a);rule q f(b,b);", 1, 1);
        apart("rule p f(a,a);rule q g(b);", 0, 1);
        apart("rule p f(a,a);rule q f(a,b);rule r f(b,a);rule s f(b,b);", 1, 2);
        apart("rule p f(a,a);rule q f(a,b);rule r f(a,x);rule s f(b,b);", 2, 2);
        apart("rule p f(a,a);rule q f(a,b);rule r f(a,x);", 2, 1);
        apart("rule p a;", 0, 1);
    }

    /** "(behind the end of a PATH 99)": ends are one class, of whatever length the paths are. */
    private static void apartEnds() {
        apart("rule p g(a);rule q g(g(a));", 1, 1);
        apart("rule p f(a,a);rule q f(a,f(a,a));rule r f(a,f(a,a));", 2, 2);
        apart("rule p f(a,g(a));rule q f(a,g(a));rule r f(a,g(g(a)));", 3, 2);
        apart("rule p f(g(a),a);rule q f(g(a),f(a,a));rule r f(g(a),f(a,b));rule s f(g(a),f(a,x));", 5, 1);
        apart("rule p " + deep(11, "a") + ";rule q " + deep(12, "a") + ";", 10, 1);
        apart("rule p h(a,a,a);rule q h(a,a,a);rule r h(a,a,g(a));rule s h(a,a,g(g(a)));", 3, 2);
        apart("rule p f(a,a);rule q g(a);rule r f(a,b);rule s b;", 0, 2);
        apart("rule p h(a,a,x);rule q h(a,a,y);rule r h(a,a,g(a));rule s h(a,a,g(b));", 3, 2);
    }

    /** "(0 and 0, if none is IN)". */
    private static void apartOfNone() {
        TermShelf shelf = Due.shelf(SIGNS + "rule p f(a,a);rule q f(a,b);");
        Due.due("apart(0) of both", shelf.apart(0), 2);
        shelf.take(0);
        Due.due("apart(0) of one", shelf.apart(0), 0);
        Due.due("apart(1) of one", shelf.apart(1), 1);
        shelf.take(1);
        Due.due("apart(0) of none", shelf.apart(0), 0);
        Due.due("apart(1) of none", shelf.apart(1), 0);
        Due.due("apart(2) of none", shelf.apart(2), Due.NONE);
        Due.due("apart(1) of 16", Due.shelf(sixteen("x")).apart(1), 16);
        Due.due("apart(0) of 16", Due.shelf(sixteen("x")).apart(0), 0);
        Due.due("apart(1) of no rules", Due.shelf(SIGNS).apart(1), 0);
    }

    /** count: "(0: none)", "NONE for another what". */
    private static void countWhat() {
        TermShelf shelf = Due.shelf(SIGNS + "rule p f(x,x) = x;rule q f(x,y) = f(x,f(x,x));rule r " + deep(12, "y") + ";");
        int[] want = {5, 2, 3, 3, 15, 2, 18, 0, 12, 1, 0};
        for (int what = 0; what < want.length; what++) {
            Due.due("count(" + what + ")", shelf.count(what), want[what]);
        }
        for (int what : new int[] {-1, 11, 12, -11, Integer.MIN_VALUE, Integer.MAX_VALUE}) {
            Due.due("count(" + what + ")", shelf.count(what), Due.NONE);
        }
        Due.ask(shelf, deep(12, "a"));
        Due.due("count(7)", shelf.count(7), 12);
        shelf.take(2);
        Due.due("count(8) without r", shelf.count(8), 3);
        shelf.take(0);
        Due.due("count(9) without p", shelf.count(9), 0);
        shelf.take(1);
        int[] then = {5, 2, 3, 0, 0, 0, 18, 12, 0, 0, 3};
        for (int what = 0; what < then.length; what++) {
            Due.due("count(" + what + ") with none in", shelf.count(what), then[what]);
        }
        Due.due("count(9) of 16", Due.shelf(sixteen("f(x,x)")).count(9), 16);
        Due.due("count(6) of 16", Due.shelf(sixteen("f(x,x)")).count(6), 48);
        Due.due("count(4) of 16", Due.shelf(sixteen("f(x,x)")).count(4), 3);
        Due.due("count(5) of 16", Due.shelf(sixteen("f(x,x)")).count(5), 1);
    }
}
