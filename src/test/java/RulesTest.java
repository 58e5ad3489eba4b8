/** Promises 18 to 25, 28 to 31: rules beside one another, and what a query comes to by them. */
public final class RulesTest {
    private static final String SIGNS = "sign a 0;sign b 0;sign f 2;sign g 1;sign h 3;var x;var y;";
    private static final String TEXT = SIGNS + "rule p f(x,y);rule q f(x,x);rule r f(a,y) = g(y);"
            + "rule s g(x) = x;rule t f(g(x),b);rule u a;";

    public static void main(String[] args) {
        above();
        joined();
        overlaps();
        overlapsOfItself();
        criticals();
        longCritical();
        shared();
        depths();
        beside();
        steps();
        firstPlaceFirst();
        stepsEnd();
        longSteps();
        Due.end("RulesTest");
    }

    private static void above() {
        TermShelf shelf = Due.shelf(TEXT + "rule v f(y,y);rule w y;");
        int[] want = {2 + 4 + 16 + 64, 64, 0, 0, 0, 0, 2, 127};
        for (int rule = 0; rule < want.length; rule++) {
            Due.due("above(" + rule + ")", shelf.above(rule), want[rule]);
        }
        Due.due("above(8)", shelf.above(8), Due.NONE);
        Due.due("above(-1)", shelf.above(-1), Due.NONE);
        Due.due("shadowed()", shelf.shadowed(), 2 + 4 + 16 + 64);
        Due.due("tops()", shelf.tops(), 128);
        shelf.take(7);
        Due.due("tops() without w", shelf.tops(), 1 + 8 + 32);
        shelf.take(0);
        Due.due("tops() without p, q and v are variants", shelf.tops(), 2 + 4 + 8 + 16 + 32 + 64);
        Due.due("shadowed() without p", shelf.shadowed(), 64);
        Due.due("above(0), out", shelf.above(0), 2 + 4 + 16 + 64);
        Due.due("above(7), out", shelf.above(7), 127);
        shelf.take(1);
        Due.due("shadowed() without q", shelf.shadowed(), 0);
        shelf.put(0);
        shelf.take(6);
        Due.due("shadowed() with p, without v", shelf.shadowed(), 4 + 16);
        TermShelf none = Due.shelf(SIGNS);
        Due.due("shadowed() of none", none.shadowed(), 0);
        Due.due("tops() of none", none.tops(), 0);
        TermShelf full = Due.shelf("var x;rule a x;rule b x;rule c x;rule d x;rule e x;rule f x;rule g x;rule h x;"
                + "rule i x;rule j x;rule k x;rule l x;rule m x;rule n x;rule o x;rule p x;");
        Due.due("above(15) of 16 alike", full.above(15), 0x7fff);
        Due.due("above(0) of 16 alike", full.above(0), 0xfffe);
        Due.due("shadowed() of 16 alike", full.shadowed(), 0xfffe);
        Due.due("tops() of 16 alike", full.tops(), 0xffff);
    }

    private static void join(String one, String other, int... codes) {
        TermShelf shelf = Due.shelf(SIGNS + "rule p " + one + ";rule q " + other + ";");
        shelf.take(1);
        for (int k = 0; k < codes.length; k++) {
            Due.due("joined at " + k + ": " + one + ", " + other, shelf.joined(0, 1, k), codes[k]);
            Due.due("joined at " + k + ": " + other + ", " + one, shelf.joined(1, 0, k), codes[k]);
        }
        Due.due("joined, behind: " + one + ", " + other, shelf.joined(0, 1, codes.length), Due.MISSING);
        Due.due("joined(0, 1, -1)", shelf.joined(0, 1, -1), Due.NONE);
        Due.due("joined(0, 2, 0)", shelf.joined(0, 2, 0), Due.NONE);
        Due.due("joined(-1, 0, 0)", shelf.joined(-1, 0, 0), Due.NONE);
    }

    private static void joined() {
        join("a", "a", 0);
        join("a", "b", 100);
        join("x", "x", 100);
        join("x", "g(x)", 100);
        join("f(a,b)", "f(b,a)", 2, 100, 101);
        join("f(a,a)", "f(b,b)", 2, 100, 100);
        join("f(x,y)", "f(x,x)", 2, 100, 101);
        join("f(x,x)", "f(x,x)", 2, 100, 100);
        join("f(y,x)", "f(y,x)", 2, 100, 101);
        join("h(g(a),b,g(g(a)))", "h(x,g(b),g(x))", 4, 100, 101, 3, 100);
        join("h(f(a,x),f(a,x),b)", "h(f(b,x),f(b,y),b)", 4, 2, 100, 101, 2, 100, 102, 1);
        join("f(g(x),b)", "f(a,y)", 2, 100, 101);
    }

    private static void overlaps() {
        TermShelf shelf = Due.shelf(TEXT);
        Due.due("overlaps(4, 3)", shelf.overlaps(4, 3), 2);
        Due.due("overlaps(3, 4)", shelf.overlaps(3, 4), 0);
        Due.due("overlaps(0, 1)", shelf.overlaps(0, 1), 1);
        Due.due("overlaps(1, 2)", shelf.overlaps(1, 2), 1);
        Due.due("overlaps(1, 4)", shelf.overlaps(1, 4), 0);
        Due.due("overlaps(2, 5)", shelf.overlaps(2, 5), 2);
        Due.due("overlaps(6, 0)", shelf.overlaps(6, 0), Due.NONE);
        Due.due("overlaps(0, -1)", shelf.overlaps(0, -1), Due.NONE);
        Due.due("criticals()", shelf.criticals(), 10);
        shelf.take(5);
        Due.due("overlaps(2, 5), one out", shelf.overlaps(2, 5), 2);
        Due.due("criticals(), u out", shelf.criticals(), 9);
        shelf.take(0);
        Due.due("criticals(), p out", shelf.criticals(), 3);
        TermShelf star = Due.shelf(SIGNS + "rule p h(x,g(y),f(a,b));rule q y;");
        Due.due("a variable overlaps all signs", star.overlaps(0, 1), 1 + 4 + 16 + 32 + 64);
        Due.due("but a variable is overlapped nowhere", star.overlaps(1, 0), 0);
        Due.due("criticals()", star.criticals(), 5);
    }

    private static void overlapsOfItself() {
        TermShelf shelf = Due.shelf(SIGNS + "rule p f(f(x,y),x);rule q f(x,g(f(x,x)));rule r g(g(g(a)));rule s g(g(x));");
        Due.due("overlaps(0, 0), place 0 is none", shelf.overlaps(0, 0), 2);
        Due.due("overlaps(1, 1), a circle is none", shelf.overlaps(1, 1), 0);
        Due.due("overlaps(1, 0), circles are none", shelf.overlaps(1, 0), 0);
        Due.due("overlaps(2, 2)", shelf.overlaps(2, 2), 0);
        Due.due("overlaps(3, 3)", shelf.overlaps(3, 3), 2);
        Due.due("overlaps(2, 3)", shelf.overlaps(2, 3), 1 + 2);
    }

    private static void critical(TermShelf shelf, int one, int other, int place, int... codes) {
        String call = "critical(" + one + ", " + other + ", " + place + ")";
        for (int k = 0; k < codes.length; k++) {
            Due.due(call + " at " + k, shelf.critical(one, other, place, k), codes[k]);
        }
        Due.due(call + " behind", shelf.critical(one, other, place, codes.length), Due.MISSING);
    }

    private static void criticals() {
        TermShelf shelf = Due.shelf(SIGNS + "rule p f(f(x,y),x);rule q f(g(a),y);rule r g(x);rule s f(y,y);");
        critical(shelf, 0, 0, 0);
        critical(shelf, 0, 0, 1, 2, 2, 2, 100, 101, 100, 2, 100, 101);
        critical(shelf, 0, 1, 1, 2, 2, 3, 0, 100, 3, 0);
        critical(shelf, 0, 3, 1, 2, 2, 100, 100, 100);
        critical(shelf, 0, 3, 2);
        critical(shelf, 0, 3, 0);
        critical(shelf, 0, 1, 0);
        critical(shelf, 1, 2, 1, 2, 3, 0, 100);
        critical(shelf, 1, 2, 0);
        critical(shelf, 1, 3, 0, 2, 3, 0, 3, 0);
        shelf.take(1);
        critical(shelf, 1, 3, 0, 2, 3, 0, 3, 0);
        Due.due("no such place", shelf.critical(0, 3, 5, 0), Due.NONE);
        Due.due("place below 0", shelf.critical(0, 3, -1, 0), Due.NONE);
        Due.due("k below 0", shelf.critical(0, 3, 1, -1), Due.NONE);
        Due.due("no such first rule", shelf.critical(4, 3, 1, 0), Due.NONE);
        Due.due("no such other rule", shelf.critical(0, -1, 1, 0), Due.NONE);
        Due.due("k far off", shelf.critical(0, 3, 1, Integer.MAX_VALUE), Due.MISSING);
    }

    /** As many places as in the meeting of FindingTest: 60 and 61. */
    private static void longCritical() {
        TermShelf shelf = Due.shelf(SIGNS + "var z;rule p h(x,h(g(x),x,x),h(x,x,x));"
                + "rule q h(x,h(g(x),g(x),x),h(x,x,x));rule r h(g(g(g(g(g(g(g(y))))))),x,z);");
        Due.due("its 60th place", shelf.critical(0, 2, 0, 59), 100);
        Due.due("behind it", shelf.critical(0, 2, 0, 60), Due.MISSING);
        Due.due("61 places are not told", shelf.critical(1, 2, 0, 0), Due.MISSING);
        Due.due("though they overlap", shelf.overlaps(1, 2) & 1, 1);
    }

    private static void shared() {
        TermShelf shelf = Due.shelf(TEXT);
        int[][] want = {{0, 0, 3}, {0, 1, 3}, {0, 2, 1}, {2, 4, 1}, {3, 5, 0}, {4, 4, 4}, {5, 0, 0},
            {0, 6, Due.NONE}, {6, 0, Due.NONE}, {-1, 0, Due.NONE}};
        for (int[] row : want) {
            Due.due("shared(" + row[0] + ", " + row[1] + ")", shelf.shared(row[0], row[1]), row[2]);
        }
        shelf.take(0);
        Due.due("shared(0, 1), one out", shelf.shared(0, 1), 3);
    }

    private static void depths() {
        TermShelf shelf = Due.shelf(SIGNS + "rule p x;rule q a;rule r f(a,g(x));rule s h(g(g(g(a))),b,f(g(a),a));"
                + "rule t " + Due.repeated("g(", 11) + "x" + Due.repeated(")", 11) + " = a;");
        int[] want = {1, 1, 3, 5, 12};
        for (int rule = 0; rule < want.length; rule++) {
            Due.due("depth(" + rule + ")", shelf.depth(rule), want[rule]);
        }
        Due.due("depth(5)", shelf.depth(5), Due.NONE);
        Due.due("depth(-1)", shelf.depth(-1), Due.NONE);
    }

    private static void beside(TermShelf shelf, int one, int other, int variants, int unify) {
        String call = "(" + one + ", " + other + ")";
        Due.due("variants" + call, shelf.beside(one, other, 0), variants);
        Due.due("variants, turned" + call, shelf.beside(other, one, 0), variants);
        Due.due("unify" + call, shelf.beside(one, other, 1), unify);
        Due.due("unify, turned" + call, shelf.beside(other, one, 1), unify);
    }

    private static void beside() {
        TermShelf shelf = Due.shelf(SIGNS + "rule p f(x,y);rule q f(y,x);rule r f(x,x);rule s f(x,g(x));rule t f(y,g(x));"
                + "rule u x;rule v a;");
        beside(shelf, 0, 0, 1, 1);
        beside(shelf, 3, 3, 1, 1);
        beside(shelf, 0, 1, 1, 1);
        beside(shelf, 0, 2, 0, 1);
        beside(shelf, 2, 3, 0, 0);
        beside(shelf, 2, 4, 0, 1);
        beside(shelf, 3, 4, 0, 1);
        beside(shelf, 3, 5, 0, 1);
        beside(shelf, 0, 6, 0, 0);
        shelf.take(0);
        beside(shelf, 0, 1, 1, 1);
        Due.due("beside(0, 1, 2)", shelf.beside(0, 1, 2), Due.NONE);
        Due.due("beside(0, 1, -1)", shelf.beside(0, 1, -1), Due.NONE);
        Due.due("beside(0, 7, 0)", shelf.beside(0, 7, 0), Due.NONE);
        Due.due("beside(-1, 0, 0)", shelf.beside(-1, 0, 0), Due.NONE);
    }

    private static void comes(TermShelf shelf, int steps, int first, int... codes) {
        Due.due("steps(0)", shelf.steps(0), steps);
        Due.due("steps(1)", shelf.steps(1), codes.length);
        Due.due("steps(2)", shelf.steps(2), first);
        for (int k = 0; k < codes.length; k++) {
            Due.due("normal(" + k + ")", shelf.normal(k), codes[k]);
        }
        Due.due("normal, behind", shelf.normal(codes.length), Due.MISSING);
    }

    private static void steps() {
        TermShelf shelf = Due.shelf("sign z 0;sign s 1;sign d 2;var x;var y;rule one d(z,y) = y;"
                + "rule two d(s(x),y) = s(d(x,y));");
        Due.due("steps(0), no query", shelf.steps(0), Due.NONE);
        Due.due("normal(0), no query", shelf.normal(0), Due.NONE);
        Due.ask(shelf, "d(s(s(z)),s(y))");
        comes(shelf, 3, 1, 1, 1, 1, 101);
        Due.due("steps(3)", shelf.steps(3), Due.NONE);
        Due.due("steps(-1)", shelf.steps(-1), Due.NONE);
        Due.due("normal(-1)", shelf.normal(-1), Due.NONE);
        Due.due("the query stays", shelf.count(7), 6);
        Due.ask(shelf, "d(x,y)");
        comes(shelf, 0, Due.MISSING, 2, 100, 101);
        Due.ask(shelf, "s(d(z,d(z,x)))");
        comes(shelf, 2, 0, 1, 100);
        shelf.take(0);
        comes(shelf, 0, Due.MISSING, 1, 2, 0, 2, 0, 100);
    }

    private static void firstPlaceFirst() {
        TermShelf shelf = Due.shelf(SIGNS + "rule p a = b;rule q f(x,y) = g(y);rule r f(x,x) = x;rule s g(g(x));"
                + "rule t f(a,a) = a;", "f(a,f(a,b))");
        comes(shelf, 2, 1, 3, 3, 1);
        shelf.take(1);
        comes(shelf, 4, 0, 1);
    }

    private static void stepsEnd() {
        TermShelf shelf = Due.shelf(SIGNS + "rule p x = x;", "y");
        comes(shelf, 20, 0, 101);
        TermShelf swap = Due.shelf(SIGNS + "rule p f(x,y) = f(y,x);", "f(a,x)");
        comes(swap, 20, 0, 2, 0, 100);
        TermShelf fixed = Due.shelf(SIGNS + "rule p x = a;", "f(x,y)");
        comes(fixed, 20, 0, 0);
    }

    private static void longSteps() {
        TermShelf shelf = Due.shelf(SIGNS + "rule p g(x) = f(g(x),g(x));", "g(a)");
        Due.due("19 steps of three places each", shelf.steps(0), 19);
        Due.due("59 places", shelf.steps(1), 59);
        Due.due("its 59th", shelf.normal(58), 0);
        Due.due("behind it", shelf.normal(59), Due.MISSING);
        TermShelf exact = Due.shelf(SIGNS + "rule p f(x,y) = h(x,x,h(x,x,h(x,x,x)));rule q b = g(b);",
                "f(g(g(g(g(g(g(g(a))))))),b)");
        Due.due("seven of eight places and three", exact.steps(1), 7 * 8 + 3);
        Due.due("done at once", exact.steps(0), 1);
        Due.ask(exact, "g(f(g(g(g(g(g(g(g(a))))))),b))");
        Due.due("60 places are done", exact.steps(1), 60);
        Due.due("in one step", exact.steps(0), 1);
        Due.ask(exact, "g(g(f(g(g(g(g(g(g(g(a))))))),a)))");
        Due.due("61 places are not", exact.steps(1), 12);
        Due.due("nor is the step", exact.steps(0), 0);
        Due.due("nor is its rule told", exact.steps(2), Due.MISSING);
        Due.ask(exact, "g(g(f(g(g(g(g(g(g(g(a))))))),b)))");
        Due.due("nor another one behind it", exact.steps(0), 0);
    }
}
