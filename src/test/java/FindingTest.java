/** Promises 13 to 17, 26 and 35 to 37: how rules fit a query, what is found, drawn and tried. */
public final class FindingTest {
    private static final String SIGNS = "sign a 0;sign b 0;sign f 2;sign g 1;sign h 3;var x;var y;";
    private static final String TEXT = SIGNS + "rule p f(x,y);rule q f(x,x);rule r f(a,y) = g(y);"
            + "rule s g(x) = x;rule t f(g(x),b);rule u a;";

    public static void main(String[] args) {
        fits();
        fitsTold();
        findings();
        passedTerms();
        filled();
        meeting();
        longMeeting();
        specific();
        tried();
        triedRepeated();
        draws();
        drawsAtTheEdge();
        chances();
        Due.end("FindingTest");
    }

    /** One rule, one query: whether it fits by 0, 1, 2, 3, and as a candidate by 0, 1, 2. */
    private static void one(String rule, String query, int[] fits, int[] candidates) {
        TermShelf shelf = Due.shelf(SIGNS + "rule p " + rule + ";", query);
        String both = rule + " by " + query;
        for (int how = 0; how < 4; how++) {
            Due.due("fits(" + how + ", 0): " + both, shelf.fits(how, 0), fits[how]);
        }
        for (int how = 0; how < 3; how++) {
            Due.due("finding(" + how + ", 0): " + both, shelf.finding(how, 0), fits[how]);
            Due.due("finding(" + how + ", 1): " + both, shelf.finding(how, 1), candidates[how]);
            Due.due("found(" + how + ", 0): " + both, shelf.found(how, 0), fits[how] == 1 ? 0 : Due.MISSING);
            Due.due("tried(0, " + how + ", 0): " + both, shelf.tried(0, how, 0), candidates[how]);
        }
    }

    private static int[] row(int... numbers) {
        return numbers;
    }

    private static void fits() {
        one("a", "a", row(1, 1, 1, 1), row(1, 1, 1));
        one("a", "b", row(0, 0, 0, 0), row(0, 0, 0));
        one("x", "y", row(1, 1, 1, 1), row(1, 1, 1));
        one("x", "g(x)", row(1, 0, 1, 0), row(1, 0, 1));
        one("g(x)", "x", row(0, 1, 1, 0), row(0, 1, 1));
        one("f(x,y)", "f(y,x)", row(1, 1, 1, 1), row(1, 1, 1));
        one("f(x,y)", "f(x,x)", row(1, 0, 1, 0), row(1, 1, 1));
        one("f(x,x)", "f(x,y)", row(0, 1, 1, 0), row(1, 1, 1));
        one("f(x,x)", "f(y,y)", row(1, 1, 1, 1), row(1, 1, 1));
        one("f(x,x)", "f(a,b)", row(0, 0, 0, 0), row(1, 0, 1));
        one("f(x,x)", "f(a,a)", row(1, 0, 1, 0), row(1, 0, 1));
        one("f(a,b)", "f(x,x)", row(0, 0, 0, 0), row(0, 1, 1));
        one("f(x,b)", "f(a,x)", row(0, 0, 1, 0), row(0, 0, 1));
        one("f(x,g(x))", "f(y,y)", row(0, 0, 0, 0), row(0, 1, 1));
        one("f(x,x)", "f(y,g(y))", row(0, 0, 0, 0), row(1, 0, 1));
        one("h(x,y,g(y))", "h(x,g(x),x)", row(0, 0, 0, 0), row(0, 0, 1));
        one("h(x,x,a)", "h(g(x),y,x)", row(0, 0, 1, 0), row(0, 0, 1));
        one("h(x,x,y)", "h(g(x),g(y),f(x,y))", row(0, 0, 1, 0), row(1, 0, 1));
        one("f(g(x),g(x))", "f(y,y)", row(0, 1, 1, 0), row(0, 1, 1));
    }

    private static void fitsTold() {
        TermShelf shelf = Due.shelf(TEXT);
        Due.due("fits without a query", shelf.fits(0, 0), Due.NONE);
        Due.due("found without a query", shelf.found(0, 0), Due.NONE);
        Due.due("finding without a query", shelf.finding(0, 0), Due.NONE);
        Due.due("filled without a query", shelf.filled(0, 0, 0), Due.NONE);
        Due.due("meeting without a query", shelf.meeting(0, 0), Due.NONE);
        Due.due("specific without a query", shelf.specific(0), Due.NONE);
        shelf.take(5);
        Due.due("fits without a query, of a rule out", shelf.fits(0, 5), Due.NONE);
        Due.ask(shelf, "a");
        Due.due("fits of a rule out", shelf.fits(0, 5), Due.MISSING);
        Due.due("fits(4, 0)", shelf.fits(4, 0), Due.NONE);
        Due.due("fits(-1, 0)", shelf.fits(-1, 0), Due.NONE);
        Due.due("fits(4, 5), of a rule out", shelf.fits(4, 5), Due.NONE);
        Due.due("fits(0, 6)", shelf.fits(0, 6), Due.NONE);
        Due.due("fits(0, -1)", shelf.fits(0, -1), Due.NONE);
        Due.due("found(3, 0)", shelf.found(3, 0), Due.NONE);
        Due.due("found(-1, 0)", shelf.found(-1, 0), Due.NONE);
        Due.due("found(0, -1)", shelf.found(0, -1), Due.NONE);
        Due.due("found(0, 0)", shelf.found(0, 0), Due.MISSING);
        Due.due("finding(3, 0)", shelf.finding(3, 0), Due.NONE);
        Due.due("finding(0, 3)", shelf.finding(0, 3), Due.NONE);
        Due.due("finding(0, -1)", shelf.finding(0, -1), Due.NONE);
        Due.due("finding(0, 2) of a node that went", shelf.finding(0, 2), 0);
    }

    private static void found(TermShelf shelf, int how, int[] rules, int candidates, int visited) {
        for (int k = 0; k < rules.length; k++) {
            Due.due("found(" + how + ", " + k + ")", shelf.found(how, k), rules[k]);
        }
        Due.due("found(" + how + ") of no so many", shelf.found(how, rules.length), Due.MISSING);
        Due.due("finding(" + how + ", 0)", shelf.finding(how, 0), rules.length);
        Due.due("finding(" + how + ", 1)", shelf.finding(how, 1), candidates);
        Due.due("finding(" + how + ", 2)", shelf.finding(how, 2), visited);
    }

    private static void findings() {
        TermShelf shelf = Due.shelf(TEXT + "rule v x;", "f(a,a)");
        found(shelf, 0, row(6, 0, 1, 2), 4, 6);
        found(shelf, 1, row(), 0, 2);
        found(shelf, 2, row(6, 0, 1, 2), 4, 6);
        Due.ask(shelf, "x");
        found(shelf, 0, row(6), 1, 1);
        found(shelf, 1, row(6, 5, 0, 1, 2, 4, 3), 7, 6);
        found(shelf, 2, row(6, 5, 0, 1, 2, 4, 3), 7, 6);
        Due.ask(shelf, "f(g(x),y)");
        found(shelf, 0, row(6, 0), 3, 6);
        found(shelf, 1, row(4), 1, 4);
        found(shelf, 2, row(6, 0, 1, 4), 4, 7);
        shelf.take(0);
        found(shelf, 0, row(6), 2, 6);
    }

    /** Nodes between, where a whole term is passed, are not visited. */
    private static void passedTerms() {
        String deep = Due.repeated("g(", 11) + "a" + Due.repeated(")", 11);
        found(Due.shelf(SIGNS + "rule p " + deep + ";", deep), 2, row(0), 1, 12);
        TermShelf shelf = Due.shelf(SIGNS + "rule p f(f(a,x),b);rule q f(f(a,g(b)),a);rule r f(g(a),b);", "f(x,b)");
        found(shelf, 1, row(0, 2), 2, 6);
        found(shelf, 2, row(0, 2), 2, 6);
        found(shelf, 0, row(), 0, 1);
    }

    private static void filled() {
        TermShelf shelf = Due.shelf(SIGNS + "var z;rule p h(x,y,x);rule q f(z,z);", "h(g(y),f(x,b),g(y))");
        int[] x = {3, 101, Due.MISSING};
        int[] y = {2, 100, 1, Due.MISSING};
        for (int k = 0; k < x.length; k++) {
            Due.due("filled(0, 0, " + k + ")", shelf.filled(0, 0, k), x[k]);
        }
        for (int k = 0; k < y.length; k++) {
            Due.due("filled(0, 1, " + k + ")", shelf.filled(0, 1, k), y[k]);
        }
        Due.due("a variable that isn't in it", shelf.filled(0, 2, 0), Due.MISSING);
        Due.due("a variable that isn't told", shelf.filled(0, 3, 0), Due.MISSING);
        Due.due("a variable that can't be", shelf.filled(0, 4, 0), Due.NONE);
        Due.due("a variable below 0", shelf.filled(0, -1, 0), Due.NONE);
        Due.due("filled(0, 0, -1)", shelf.filled(0, 0, -1), Due.NONE);
        Due.due("filled(0, 0, MAX)", shelf.filled(0, 0, Integer.MAX_VALUE), Due.MISSING);
        Due.due("a rule that isn't general", shelf.filled(1, 2, 0), Due.MISSING);
        Due.due("no such rule", shelf.filled(2, 0, 0), Due.NONE);
        Due.due("no such rule below", shelf.filled(-1, 0, 0), Due.NONE);
        shelf.take(0);
        Due.due("a rule out", shelf.filled(0, 0, 0), Due.NONE);
        TermShelf whole = Due.shelf(SIGNS + "rule p y;", "g(x)");
        Due.due("the whole query is filled", whole.filled(0, 1, 0), 3);
        Due.due("the whole query is filled", whole.filled(0, 1, 1), 100);
    }

    private static void met(TermShelf shelf, int rule, int... codes) {
        for (int k = 0; k < codes.length; k++) {
            Due.due("meeting(" + rule + ", " + k + ")", shelf.meeting(rule, k), codes[k]);
        }
        Due.due("meeting of no so many", shelf.meeting(rule, codes.length), Due.MISSING);
    }

    private static void meeting() {
        TermShelf shelf = Due.shelf(SIGNS + "rule p h(x,x,y);rule q h(y,a,x);rule r f(x,g(x));rule s x;",
                "h(y,g(x),f(x,y))");
        met(shelf, 0, 4, 3, 100, 3, 100, 2, 100, 3, 100);
        met(shelf, 1);
        met(shelf, 3, 4, 100, 3, 101, 2, 101, 100);
        Due.due("meeting(0, -1)", shelf.meeting(0, -1), Due.NONE);
        Due.due("meeting(4, 0)", shelf.meeting(4, 0), Due.NONE);
        Due.due("meeting(-1, 0)", shelf.meeting(-1, 0), Due.NONE);
        shelf.take(0);
        Due.due("meeting of a rule out", shelf.meeting(0, 0), Due.NONE);
        Due.ask(shelf, "f(y,y)");
        met(shelf, 2);
        Due.due("a circle doesn't unify", shelf.fits(2, 2), 0);
        Due.ask(shelf, "y");
        met(shelf, 2, 2, 100, 3, 100);
        met(shelf, 3, 100);
    }

    /** With 8 places for x, the first rule comes to 3 + 7 * 8 + 1 places, the second one to one more. */
    private static void longMeeting() {
        TermShelf shelf = Due.shelf(SIGNS + "var z;rule p h(x,h(g(x),x,x),h(x,x,x));"
                + "rule q h(x,h(g(x),g(x),x),h(x,x,x));", "h(g(g(g(g(g(g(g(y))))))),x,z)");
        Due.due("fits(2, 0)", shelf.fits(2, 0), 1);
        Due.due("its first place", shelf.meeting(0, 0), 4);
        Due.due("its 60th place", shelf.meeting(0, 59), 100);
        Due.due("behind it", shelf.meeting(0, 60), Due.MISSING);
        Due.due("fits(2, 1)", shelf.fits(2, 1), 1);
        Due.due("61 places are not told", shelf.meeting(1, 0), Due.MISSING);
        Due.due("61 places are not told", shelf.meeting(1, 59), Due.MISSING);
    }

    private static void specific() {
        TermShelf shelf = Due.shelf(TEXT + "rule v x;rule w f(y,y);", "f(a,a)");
        Due.due("specific(0)", shelf.specific(0), 2);
        Due.due("specific(1)", shelf.specific(1), Due.MISSING);
        Due.due("specific(2)", shelf.specific(2), 2);
        shelf.take(2);
        Due.due("two variants: the first by numbers", shelf.specific(0), 0);
        shelf.take(7);
        Due.due("without the variant", shelf.specific(0), 1);
        Due.due("specific(3)", shelf.specific(3), Due.NONE);
        Due.due("specific(-1)", shelf.specific(-1), Due.NONE);
        Due.ask(shelf, "x");
        Due.due("of all instances", shelf.specific(1), 1);
        TermShelf first = Due.shelf(SIGNS + "rule p a;rule q x;rule r b;", "a");
        Due.due("the first rule", first.specific(0), 0);
        Due.ask(first, "y");
        Due.due("the first rule of two", first.specific(1), 0);
    }

    private static void tried() {
        TermShelf shelf = Due.shelf(TEXT);
        Due.due("tried without a query", shelf.tried(0, 0, 0), Due.MISSING);
        Due.due("tried(2, 0, 6) without a query", shelf.tried(2, 0, 6), Due.NONE);
        Due.ask(shelf, "f(a,b)");
        int[] found = {2, 0, 2};
        for (int how = 0; how < 3; how++) {
            Due.due("found", shelf.finding(how, 0), found[how]);
        }
        Due.due("tried(0, 0, 0)", shelf.tried(0, 0, 0), 3);
        Due.due("tried(1, 0, 0)", shelf.tried(1, 0, 0), 3);
        Due.due("tried(2, 0, 0)", shelf.tried(2, 0, 0), 1);
        Due.due("tried(2, 0, 1)", shelf.tried(2, 0, 1), 2);
        Due.due("tried(2, 0, 5)", shelf.tried(2, 0, 5), 2);
        shelf.take(0);
        Due.due("tried(2, 0, 0), it is out", shelf.tried(2, 0, 0), 1);
        Due.due("tried(3, 0, 0), it is out", shelf.tried(3, 0, 0), 2);
        Due.due("tried(0, 0, 0), it is out", shelf.tried(0, 0, 0), 2);
        Due.due("nothing is put in by it", shelf.count(3), 5);
        Due.due("tried(2, 0, 6)", shelf.tried(2, 0, 6), Due.NONE);
        Due.due("tried(2, 0, -1)", shelf.tried(2, 0, -1), Due.NONE);
        Due.due("tried(0, 0, 1)", shelf.tried(0, 0, 1), Due.NONE);
        Due.due("tried(3, 0, -1)", shelf.tried(3, 0, -1), Due.NONE);
        Due.due("tried(5, 0, 0)", shelf.tried(5, 0, 0), Due.NONE);
        Due.due("tried(-1, 0, 0)", shelf.tried(-1, 0, 0), Due.NONE);
        Due.due("tried(0, 3, 0)", shelf.tried(0, 3, 0), Due.NONE);
        Due.due("tried(0, -1, 0)", shelf.tried(0, -1, 0), Due.NONE);
    }

    private static void triedRepeated() {
        TermShelf shelf = Due.shelf(SIGNS + "rule p f(a,b);rule q f(x,x);rule r f(x,g(x));rule s f(x,y);", "f(y,y)");
        int[][] want = {{2, 4, 4}, {2, 0, 3}, {2, 1, 2}, {2, 1, 2}, {2, 1, 2}};
        for (int what = 0; what < want.length; what++) {
            for (int how = 0; how < 3; how++) {
                Due.due("tried(" + what + ", " + how + ", 0)", shelf.tried(what, how, 0), want[what][how]);
            }
        }
        Due.ask(shelf, "f(x,y)");
        int[] found = {1, 4, 4};
        int[] ofOneVariable = {2, 1, 2};
        for (int how = 0; how < 3; how++) {
            Due.due("f(x,y) by " + how, shelf.finding(how, 0), found[how]);
            Due.due("as one variable by " + how, shelf.tried(4, how, 0), ofOneVariable[how]);
        }
        Due.due("the query stays", shelf.asked(2), 101);
    }

    private static void drawn(TermShelf shelf, int seed, int... codes) {
        Due.due("draw(" + seed + ")", shelf.draw(seed), codes.length);
        for (int k = 0; k < codes.length; k++) {
            Due.due("drawn by " + seed + " at " + k, shelf.asked(k), codes[k]);
        }
    }

    /** By seed 0 the numbers are 0, 21468, 9988, 22117, 3498, 16927 .., by 1 16838, 5758, 10113, 17515 ... */
    private static void draws() {
        TermShelf shelf = Due.shelf("sign a 0;sign b 0;sign f 2;sign g 1;var x;var y;");
        drawn(shelf, 0, 0);
        drawn(shelf, 1, 2, 100, 3, 1);
        TermShelf other = Due.shelf("sign f 2;sign g 1;sign a 0;var x;");
        drawn(other, 0, 0, 0, 0, 1, 2, 100, 1, 1, 2, 2);
        TermShelf none = Due.shelf("");
        Due.due("draw of nothing", none.draw(0), Due.MISSING);
        Due.due("draw(-1)", shelf.draw(-1), Due.NONE);
        Due.due("draw(MIN)", shelf.draw(Integer.MIN_VALUE), Due.NONE);
        Due.due("the query stays", shelf.count(7), 4);
        Due.due("draw(MAX)", shelf.draw(Integer.MAX_VALUE) > 0 ? 1 : 0, 1);
    }

    private static void drawsAtTheEdge() {
        TermShelf shelf = Due.shelf("sign g 1;");
        Due.due("no constant, no variable", shelf.draw(5), Due.MISSING);
        Due.due("chance without any", shelf.chance(5, 0), Due.MISSING);
        Due.due("no query then", shelf.count(7), 0);
        TermShelf first = Due.shelf("sign c 0;sign h 3;sign d 0;");
        drawn(first, 8, 1, 2, 2, 1, 1, 2, 0, 0, 0, 0);
        TermShelf full = Due.shelf("sign h 3;sign c 0;sign f 2;");
        drawn(full, 14, 0, 0, 0, 1, 2, 1, 1, 1, 1, 1, 1, 1);
        TermShelf variable = Due.shelf("sign h 3;var x;");
        drawn(variable, 0, 0, 0, 0, 100, 100, 100, 100, 100, 100, 100);
        for (int seed = 0; seed < 40; seed++) {
            int places = variable.draw(seed);
            Due.due("places of draw(" + seed + ")", places % 3, 1);
            Due.due("at most 12", places <= 12 ? 1 : 0, 1);
        }
        TermShelf constant = Due.shelf("sign g 1;sign h 3;sign f 2;sign c 0;sign d 0;var x;");
        for (int seed = 0; seed < 200; seed++) {
            int places = constant.draw(seed);
            Due.due("a term is drawn", places >= 1 && places <= 12 ? 1 : 0, 1);
        }
    }

    private static void chances() {
        TermShelf shelf = Due.shelf("sign a 0;sign b 0;sign f 2;sign g 1;var x;var y;rule p f(x,y);rule q f(x,x);"
                + "rule r f(a,y) = g(y);rule s g(x) = x;rule t f(g(x),b);rule u a;", "f(a,b)");
        Due.due("chance(0, 0)", shelf.chance(0, 0), 4);
        Due.due("chance(0, 1)", shelf.chance(0, 1), 4);
        Due.due("chance(0, 2)", shelf.chance(0, 2), 5);
        Due.due("the query stays", shelf.count(7), 3);
        Due.due("the query stays", shelf.asked(2), 1);
        for (int rule = 0; rule < 6; rule++) {
            shelf.take(rule);
        }
        Due.due("chance without rules in", shelf.chance(0, 2), 0);
        Due.due("chance(-1, 0)", shelf.chance(-1, 0), Due.NONE);
        Due.due("chance(0, 3)", shelf.chance(0, 3), Due.NONE);
        Due.due("chance(0, -1)", shelf.chance(0, -1), Due.NONE);
        Due.due("chance of nothing", Due.shelf("").chance(0, 0), Due.MISSING);
        Due.due("chance of nothing, wrong way", Due.shelf("").chance(0, 3), Due.NONE);
        Due.due("all are found", Due.shelf("sign a 0;sign f 2;var x;rule p x;").chance(7, 0), 10);
    }
}
