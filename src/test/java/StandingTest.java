/** Promises 11, 12, 27, 32 to 34 and 38 to 41: rules in and out, the tree, undoing, images, counts. */
public final class StandingTest {
    private static final String SIGNS = "sign a 0;sign b 0;sign f 2;sign g 1;var x;var y;";
    private static final String TEXT = SIGNS + "rule p f(x,y);rule q f(x,x);rule r f(a,y) = g(y);"
            + "rule s g(x) = x;rule t f(g(x),b);rule u a;";

    public static void main(String[] args) {
        takeAndPut();
        undo();
        undoAtMost();
        undoTheLatest();
        images();
        counts();
        branches();
        orders();
        apart();
        Due.end("StandingTest");
    }

    private static void takeAndPut() {
        TermShelf shelf = Due.shelf(TEXT);
        Due.due("nodes", shelf.count(4), 11);
        Due.due("take p, its path is q's too", shelf.take(0), 0);
        Due.due("take q", shelf.take(1), 2);
        Due.due("leaves", shelf.count(5), 4);
        Due.due("take r", shelf.take(2), 2);
        Due.due("take t, the last one below f", shelf.take(4), 4);
        Due.due("nodes are left of s, u", shelf.count(4), 3);
        Due.due("take t again", shelf.take(4), Due.MISSING);
        Due.due("put u that is in", shelf.put(5), Due.MISSING);
        Due.due("put q", shelf.put(1), 3);
        Due.due("put p", shelf.put(0), 0);
        Due.due("put t", shelf.put(4), 3);
        Due.due("take(6)", shelf.take(6), Due.NONE);
        Due.due("take(-1)", shelf.take(-1), Due.NONE);
        Due.due("put(6)", shelf.put(6), Due.NONE);
        Due.due("put(-1)", shelf.put(-1), Due.NONE);
        Due.due("put(32)", shelf.put(32), Due.NONE);
        Due.due("what can be undone", shelf.count(10), 7);
    }

    private static void undo() {
        TermShelf shelf = Due.shelf(TEXT, "f(a,a)");
        Due.due("nothing to undo", shelf.undo(), Due.NONE);
        shelf.take(4);
        shelf.take(4);
        shelf.put(0);
        shelf.take(0);
        shelf.put(4);
        Due.ask(shelf, "a");
        Due.due("three can be undone", shelf.count(10), 3);
        Due.due("undo put", shelf.undo(), 2);
        Due.due("t is out", shelf.rule(4, 3), 0);
        Due.due("nodes without it", shelf.count(4), 8);
        Due.due("undo take", shelf.undo(), 1);
        Due.due("p is in", shelf.rule(0, 3), 1);
        Due.due("undo take", shelf.undo(), 0);
        Due.due("t is in", shelf.rule(4, 3), 1);
        Due.due("all are in", shelf.count(3), 6);
        Due.due("nothing more", shelf.undo(), Due.NONE);
        Due.due("the query is not undone", shelf.count(7), 1);
    }

    private static void undoAtMost() {
        TermShelf shelf = Due.shelf(TEXT);
        shelf.take(0);
        for (int i = 0; i < 11; i++) {
            shelf.take(5);
            shelf.put(5);
        }
        Due.due("twenty at most", shelf.count(10), 20);
        for (int i = 19; i >= 0; i--) {
            Due.due("undo", shelf.undo(), i);
            Due.due("u in", shelf.rule(5, 3), i % 2 == 1 ? 0 : 1);
        }
        Due.due("undo", shelf.undo(), Due.NONE);
        Due.due("the first one stays", shelf.rule(0, 3), 0);
    }

    /** Rules 0 .. 5 are turned one after another, 25 times; the latest 20 are undone. */
    private static void undoTheLatest() {
        TermShelf shelf = Due.shelf(TEXT);
        for (int turn = 0; turn < 25; turn++) {
            int rule = turn % 6;
            int answer = shelf.rule(rule, 3) == 1 ? shelf.take(rule) : shelf.put(rule);
            Due.due("a turn is done", answer >= 0 ? 1 : 0, 1);
        }
        for (int turns = 24; turns >= 5; turns--) {
            Due.due("undo", shelf.undo(), turns - 5);
            for (int rule = 0; rule < 6; rule++) {
                int turned = (turns + 5 - rule) / 6;
                Due.due("rule " + rule + " behind " + turns + " turns", shelf.rule(rule, 3), 1 - turned % 2);
            }
        }
        Due.due("no more than twenty", shelf.undo(), Due.NONE);
    }

    private static void images() {
        TermShelf shelf = Due.shelf(TEXT, "f(a,a)");
        Due.due("no image", shelf.back(), Due.NONE);
        shelf.take(1);
        Due.due("keep", shelf.keep(), 5);
        Due.due("undoing stays behind keep", shelf.count(10), 1);
        shelf.take(2);
        shelf.put(1);
        Due.due("back", shelf.back(), 5);
        Due.due("q is out", shelf.rule(1, 3), 0);
        Due.due("r is in", shelf.rule(2, 3), 1);
        Due.due("nothing to undo", shelf.undo(), Due.NONE);
        Due.due("the query stays", shelf.count(7), 3);
        Due.due("nodes as then", shelf.count(4), 11);
        shelf.take(4);
        Due.due("back once more", shelf.back(), 5);
        shelf.put(1);
        Due.due("another image", shelf.keep(), 6);
        shelf.take(0);
        Due.due("back to it", shelf.back(), 6);
        Due.told(shelf, TEXT);
        Due.due("no image behind a text", shelf.back(), Due.NONE);
    }

    private static void counts() {
        TermShelf shelf = Due.shelf(TEXT, "f(x,a)");
        int[] want = {4, 2, 6, 6, 11, 5, 16, 3, 4, 1, 0};
        for (int what = 0; what < want.length; what++) {
            Due.due("count(" + what + ")", shelf.count(what), want[what]);
        }
        Due.due("count(11)", shelf.count(11), Due.NONE);
        Due.due("count(-1)", shelf.count(-1), Due.NONE);
        shelf.take(1);
        shelf.take(4);
        int[] then = {4, 2, 6, 4, 8, 4, 16, 3, 3, 0, 2};
        for (int what = 0; what < then.length; what++) {
            Due.due("count(" + what + ") then", shelf.count(what), then[what]);
        }
        for (int rule : new int[] {0, 2, 3, 5}) {
            shelf.take(rule);
        }
        shelf.put(4);
        Due.due("the longest one is alone", shelf.count(8), 4);
        shelf.undo();
        shelf.put(1);
        Due.due("the repeating one is alone", shelf.count(9), 1);
        shelf.undo();
        int[] last = {4, 2, 6, 0, 0, 0, 16, 3, 0, 0, 6};
        for (int what = 0; what < last.length; what++) {
            Due.due("count(" + what + ") at last", shelf.count(what), last[what]);
        }
    }

    private static void branches() {
        TermShelf shelf = Due.shelf(TEXT + "rule v y;");
        int[][] want = {{100, 0, 2, 3}, {100, 0, 3, 100}, {100, 100, 100}, {1}, {}};
        for (int length = 1; length <= want.length; length++) {
            int[] row = want[length - 1];
            Due.due("width(" + (length - 1) + ")", shelf.width(length - 1), row.length);
            for (int k = 0; k < row.length; k++) {
                Due.due("branch(" + length + ", " + k + ")", shelf.branch(length, k), row[k]);
            }
            Due.due("branch of no so many", shelf.branch(length, row.length), Due.MISSING);
        }
        Due.due("branch(12, 0)", shelf.branch(12, 0), Due.MISSING);
        Due.due("branch(13, 0)", shelf.branch(13, 0), Due.NONE);
        Due.due("branch(0, 0)", shelf.branch(0, 0), Due.NONE);
        Due.due("branch(1, -1)", shelf.branch(1, -1), Due.NONE);
        Due.due("branch(1, MAX)", shelf.branch(1, Integer.MAX_VALUE), Due.MISSING);
        Due.due("width(11)", shelf.width(11), 0);
        Due.due("width(12)", shelf.width(12), Due.NONE);
        Due.due("width(-1)", shelf.width(-1), Due.NONE);
        shelf.take(2);
        Due.due("width(1) without r", shelf.width(1), 3);
        Due.due("branch(2, 1) without r", shelf.branch(2, 1), 3);
        TermShelf deep = Due.shelf(SIGNS + "rule p " + Due.repeated("g(", 11) + "b" + Due.repeated(")", 11) + ";");
        Due.due("width(11) of a deep one", deep.width(11), 1);
        Due.due("branch(12, 0) of a deep one", deep.branch(12, 0), 1);
        Due.due("its nodes", deep.count(4), 12);
    }

    private static void orders() {
        TermShelf shelf = Due.shelf(SIGNS + "rule p g(b);rule q f(b,x);rule r f(y,a);rule s y;"
                + "rule t f(x,x);rule u b;rule v f(x,y);rule w x;");
        int[] want = {3, 7, 5, 4, 6, 2, 1, 0};
        for (int k = 0; k < want.length; k++) {
            Due.due("order(" + k + ")", shelf.order(k), want[k]);
        }
        Due.due("order(8)", shelf.order(8), Due.MISSING);
        Due.due("order(-1)", shelf.order(-1), Due.NONE);
        shelf.take(3);
        shelf.take(4);
        Due.due("order(0) then", shelf.order(0), 7);
        Due.due("order(2) then", shelf.order(2), 6);
        Due.due("order(6) then", shelf.order(6), Due.MISSING);
        shelf.put(4);
        Due.due("order(2) again", shelf.order(2), 4);
    }

    private static void apart() {
        TermShelf shelf = Due.shelf(TEXT);
        Due.due("apart(0)", shelf.apart(0), 1);
        Due.due("apart(1)", shelf.apart(1), 3);
        Due.due("apart(2)", shelf.apart(2), Due.NONE);
        Due.due("apart(-1)", shelf.apart(-1), Due.NONE);
        shelf.take(0);
        Due.due("apart(0) without p", shelf.apart(0), 1);
        Due.due("apart(1) without p", shelf.apart(1), 2);
        TermShelf ends = Due.shelf(SIGNS + "rule p f(a,f(a,a));rule q f(a,a);rule r f(a,f(a,b));");
        Due.due("apart(0), an end is a class", ends.apart(0), 4);
        Due.due("apart(1), an end is a class", ends.apart(1), 1);
        TermShelf alike = Due.shelf(SIGNS + "rule p f(x,x);rule q f(x,y);rule r f(y,x);");
        Due.due("apart(0), all alike", alike.apart(0), 0);
        Due.due("apart(1), all alike", alike.apart(1), 3);
        TermShelf first = Due.shelf(SIGNS + "rule p a;rule q b;");
        Due.due("apart(0), the first of several", first.apart(0), 0);
        Due.due("apart(1), the first of several", first.apart(1), 1);
        first.take(0);
        Due.due("apart(1), one in", first.apart(1), 1);
        first.take(1);
        Due.due("apart(0), none in", first.apart(0), 0);
        Due.due("apart(1), none in", first.apart(1), 0);
    }
}
