/** Edges of "Terms" 2, 3 (FILLED, MEETING, DRAWN, TRIED) and promises 10, 13 to 17, 26, 35 to 37. */
public final class FindingEdgesTest {
    private static final String SIGNS = "sign a 0;sign b 0;sign f 2;sign g 1;sign h 3;var x;var y;";
    private static final String TEXT = SIGNS + "rule p f(x,y);rule q f(x,x);rule r f(a,b);";
    private static final int[] OFF = {-2, -16, 16, 17, 31, 32, 33, 64, 100, Integer.MIN_VALUE, Integer.MAX_VALUE};

    public static void main(String[] args) {
        everywhereTheSame();
        variablesAreOthers();
        noTermForAVariableInIt();
        variants();
        asked();
        fitsArguments();
        fitsOfARuleOut();
        foundArguments();
        foundOfSixteen();
        findingArguments();
        findingOfNone();
        rootIsNotCounted();
        filledVariables();
        filledNumbers();
        filledRefused();
        meetingArguments();
        meetingOfSixty();
        meetingShape();
        specificArguments();
        specificOfVariants();
        drawnSeeds();
        drawnUpToTwelve();
        drawnWithoutEnds();
        chanceArguments();
        chanceNumbers();
        triedArguments();
        triedWithoutAQuery();
        triedWithoutARule();
        triedAllIn();
        triedLoose();
        triedAsOne();
        Due.end("FindingEdgesTest");
    }

    private static String deep(int places, String leaf) {
        return Due.repeated("g(", places - 1) + leaf + Due.repeated(")", places - 1);
    }

    private static String sixteen(String term) {
        StringBuilder text = new StringBuilder(SIGNS);
        for (char name = 'a'; name <= 'p'; name++) {
            text.append("rule ").append(name).append(' ').append(term).append(';');
        }
        return text.toString();
    }

    private static void fit(String rule, String query, int... want) {
        TermShelf shelf = Due.shelf(SIGNS + "rule p " + rule + ";", query);
        for (int how = 0; how < 4; how++) {
            Due.due("fits(" + how + ", 0) of " + rule + ", " + query, shelf.fits(how, 0), want[how]);
        }
    }

    /** "(everywhere the same for one)", "the RULE's VARIABLES stay as they are". */
    private static void everywhereTheSame() {
        fit("f(x,x)", "f(g(a),g(a))", 1, 0, 1, 0);
        fit("f(x,x)", "f(g(a),g(b))", 0, 0, 0, 0);
        fit("f(x,x)", "f(g(x),g(y))", 0, 0, 1, 0);
        fit("f(x,x)", "f(f(a,b),f(a,a))", 0, 0, 0, 0);
        fit("f(x,x)", "f(a,g(a))", 0, 0, 0, 0);
        fit("f(x,x)", "f(g(a),a)", 0, 0, 0, 0);
        fit("h(x,x,x)", "h(a,a,a)", 1, 0, 1, 0);
        fit("h(x,x,x)", "h(a,a,b)", 0, 0, 0, 0);
        fit("h(x,y,x)", "h(a,b,a)", 1, 0, 1, 0);
        fit("h(x,y,x)", "h(a,b,b)", 0, 0, 0, 0);
        fit("f(g(a),g(a))", "f(x,x)", 0, 1, 1, 0);
        fit("f(g(a),g(b))", "f(x,x)", 0, 0, 0, 0);
        fit("f(g(x),g(y))", "f(x,x)", 0, 0, 1, 0);
        fit("f(x,a)", "f(b,x)", 0, 0, 1, 0);
        fit("f(x,y)", "f(x,x)", 1, 0, 1, 0);
    }

    /** "its VARIABLES are others than those of RULES". */
    private static void variablesAreOthers() {
        fit("g(x)", "x", 0, 1, 1, 0);
        fit("x", "g(x)", 1, 0, 1, 0);
        fit("f(x,g(y))", "f(y,x)", 0, 1, 1, 0);
        fit("f(x,y)", "f(y,x)", 1, 1, 1, 1);
        fit("f(x,y)", "f(y,g(x))", 1, 0, 1, 0);
        fit("f(x,x)", "f(x,g(y))", 0, 0, 1, 0);
        fit("h(x,y,a)", "h(y,x,a)", 1, 1, 1, 1);
    }

    /** "no TERM for a VARIABLE that is in it, as far as all is put in". */
    private static void noTermForAVariableInIt() {
        fit("f(x,x)", "f(y,g(y))", 0, 0, 0, 0);
        fit("f(x,g(x))", "f(y,y)", 0, 0, 0, 0);
        fit("f(x,x)", "f(x,x)", 1, 1, 1, 1);
        fit("f(x,x)", "f(f(y,a),y)", 0, 0, 0, 0);
        fit("f(x,x)", "f(f(a,y),y)", 0, 0, 0, 0);
        fit("f(x,x)", "f(y,h(a,y,a))", 0, 0, 0, 0);
        fit("f(x,x)", "f(y,h(a,b,y))", 0, 0, 0, 0);
        fit("f(h(a,b,x),x)", "f(y,y)", 0, 0, 0, 0);
        fit("f(h(a,b,x),y)", "f(y,y)", 0, 0, 1, 0);
        fit("h(x,g(x),x)", "h(x,y,g(y))", 0, 0, 0, 0);
        fit("h(x,g(x),y)", "h(x,y,g(y))", 0, 0, 1, 0);
        fit("h(x,y,x)", "h(x,g(x),g(y))", 0, 0, 1, 0);
        fit("h(x,y,f(x,y))", "h(g(y),g(x),f(y,x))", 0, 0, 0, 0);
        fit("h(x,y,f(x,y))", "h(g(y),g(x),f(x,y))", 0, 0, 0, 0);
        fit("h(x,x,f(y,y))", "h(x,y,f(x,g(y)))", 0, 0, 0, 0);
        fit("h(x,x,f(y,y))", "h(x,y,f(x,y))", 0, 0, 1, 0);
    }

    /** "VARIANT (3): GENERAL and INSTANCE". */
    private static void variants() {
        fit("a", "a", 1, 1, 1, 1);
        fit("x", "x", 1, 1, 1, 1);
        fit("y", "y", 1, 1, 1, 1);
        fit("y", "a", 1, 0, 1, 0);
        fit("a", "y", 0, 1, 1, 0);
        fit("y", "g(x)", 1, 0, 1, 0);
        fit("g(x)", "y", 0, 1, 1, 0);
        fit("h(x,y,x)", "h(y,x,y)", 1, 1, 1, 1);
        fit("h(x,y,x)", "h(y,x,x)", 0, 0, 1, 0);
        fit("h(x,y,x)", "h(x,x,x)", 1, 0, 1, 0);
        fit("h(x,x,x)", "h(x,y,x)", 0, 1, 1, 0);
        fit(deep(12, "x"), deep(12, "y"), 1, 1, 1, 1);
        fit(deep(12, "x"), deep(12, "a"), 1, 0, 1, 0);
        fit(deep(12, "b"), deep(12, "a"), 0, 0, 0, 0);
        fit(deep(11, "x"), deep(12, "a"), 1, 0, 1, 0);
        fit(deep(12, "a"), deep(11, "a"), 0, 0, 0, 0);
    }

    /** asked: "-2: there is no such PLACE, no QUERY; NONE: it is below 0". */
    private static void asked() {
        TermShelf shelf = Due.shelf(SIGNS);
        Due.due("asked(0), no query", shelf.asked(0), Due.MISSING);
        Due.due("asked(12), no query", shelf.asked(12), Due.MISSING);
        Due.due("asked(-1), no query", shelf.asked(-1), Due.NONE);
        Due.ask(shelf, "f(a,y)");
        Due.due("asked(-1)", shelf.asked(-1), Due.NONE);
        Due.due("asked(MIN)", shelf.asked(Integer.MIN_VALUE), Due.NONE);
        Due.due("asked(0)", shelf.asked(0), 2);
        Due.due("asked(2)", shelf.asked(2), 101);
        Due.due("asked(3)", shelf.asked(3), Due.MISSING);
        Due.due("asked(12)", shelf.asked(12), Due.MISSING);
        Due.due("asked(MAX)", shelf.asked(Integer.MAX_VALUE), Due.MISSING);
        Due.ask(shelf, "y");
        Due.due("asked(0) of one place", shelf.asked(0), 101);
        Due.due("asked(1) of one place", shelf.asked(1), Due.MISSING);
    }

    /** fits: "by 0 .. 3", "NONE: no such ones, no QUERY". */
    private static void fitsArguments() {
        TermShelf shelf = Due.shelf(TEXT, "f(a,b)");
        int[] byHow = {Due.NONE, 1, 0, 1, 0, Due.NONE, Due.NONE};
        for (int how = -1; how <= 5; how++) {
            Due.due("fits(" + how + ", 0)", shelf.fits(how, 0), byHow[how + 1]);
        }
        int[] byRule = {Due.NONE, 1, 0, 1, Due.NONE};
        for (int rule = -1; rule <= 3; rule++) {
            Due.due("fits(0, " + rule + ")", shelf.fits(0, rule), byRule[rule + 1]);
        }
        for (int off : OFF) {
            Due.due("fits(0, " + off + ")", shelf.fits(0, off), Due.NONE);
            Due.due("fits(" + off + ", 0)", shelf.fits(off, 0), Due.NONE);
        }
        TermShelf all = Due.shelf(sixteen("x"), "a");
        Due.due("fits(0, 15) of 16", all.fits(0, 15), 1);
        Due.due("fits(0, 16) of 16", all.fits(0, 16), Due.NONE);
        TermShelf none = Due.shelf(SIGNS, "a");
        Due.due("fits(0, 0) without rules", none.fits(0, 0), Due.NONE);
    }

    /** fits: "-2: it isn't IN". */
    private static void fitsOfARuleOut() {
        TermShelf shelf = Due.shelf(TEXT);
        shelf.take(0);
        Due.due("fits(0, 0), out, no query", shelf.fits(0, 0), Due.NONE);
        Due.ask(shelf, "f(a,b)");
        for (int how = 0; how <= 3; how++) {
            Due.due("fits(" + how + ", 0), out", shelf.fits(how, 0), Due.MISSING);
        }
        Due.due("fits(4, 0), out", shelf.fits(4, 0), Due.NONE);
        Due.due("fits(-1, 0), out", shelf.fits(-1, 0), Due.NONE);
        shelf.put(0);
        Due.due("fits(0, 0), in again", shelf.fits(0, 0), 1);
    }

    /** found: "-2: there are no so many; NONE: no such ones, no QUERY". */
    private static void foundArguments() {
        TermShelf shelf = Due.shelf(TEXT);
        Due.due("found(0, 0), no query", shelf.found(0, 0), Due.NONE);
        Due.due("found(3, 0), no query", shelf.found(3, 0), Due.NONE);
        Due.ask(shelf, "f(a,b)");
        Due.due("found(-1, 0)", shelf.found(-1, 0), Due.NONE);
        Due.due("found(3, 0)", shelf.found(3, 0), Due.NONE);
        Due.due("found(0, -1)", shelf.found(0, -1), Due.NONE);
        Due.due("found(0, 0)", shelf.found(0, 0), 0);
        Due.due("found(0, 1)", shelf.found(0, 1), 2);
        Due.due("found(0, 2)", shelf.found(0, 2), Due.MISSING);
        Due.due("found(1, 0)", shelf.found(1, 0), 2);
        Due.due("found(1, 1)", shelf.found(1, 1), Due.MISSING);
        Due.due("found(2, 1)", shelf.found(2, 1), 2);
        Due.due("found(2, 2)", shelf.found(2, 2), Due.MISSING);
        Due.due("found(2, MAX)", shelf.found(2, Integer.MAX_VALUE), Due.MISSING);
        Due.due("found(2, MIN)", shelf.found(2, Integer.MIN_VALUE), Due.NONE);
        Due.due("found(MAX, 0)", shelf.found(Integer.MAX_VALUE, 0), Due.NONE);
        Due.due("found(MIN, 0)", shelf.found(Integer.MIN_VALUE, 0), Due.NONE);
        Due.due("found(3, -1)", shelf.found(3, -1), Due.NONE);
        shelf.take(0);
        Due.due("found(0, 0) without p", shelf.found(0, 0), 2);
        Due.due("found(0, 1) without p", shelf.found(0, 1), Due.MISSING);
        shelf.take(2);
        Due.due("found(0, 0) of none", shelf.found(0, 0), Due.MISSING);
        Due.due("found(0, -1) of none", shelf.found(0, -1), Due.NONE);
    }

    private static void foundOfSixteen() {
        TermShelf shelf = Due.shelf(sixteen("f(x,x)"), "f(y,y)");
        for (int how = 0; how <= 2; how++) {
            for (int k = 0; k < 16; k++) {
                Due.due("found(" + how + ", " + k + ") of 16", shelf.found(how, k), k);
            }
            Due.due("found(" + how + ", 16) of 16", shelf.found(how, 16), Due.MISSING);
            Due.due("finding(" + how + ", 0) of 16", shelf.finding(how, 0), 16);
            Due.due("finding(" + how + ", 1) of 16", shelf.finding(how, 1), 16);
            Due.due("finding(" + how + ", 2) of 16", shelf.finding(how, 2), 3);
        }
    }

    /** finding: "By FINDING 0 .. 2, what 0 .. 2", "NONE: no such ones, no QUERY". */
    private static void findingArguments() {
        TermShelf shelf = Due.shelf(TEXT);
        for (int what = -1; what <= 3; what++) {
            Due.due("finding(0, " + what + "), no query", shelf.finding(0, what), Due.NONE);
        }
        Due.ask(shelf, "f(a,b)");
        int[][] want = {{2, 3, 5}, {1, 1, 3}, {2, 3, 5}};
        for (int how = 0; how <= 2; how++) {
            for (int what = 0; what <= 2; what++) {
                Due.due("finding(" + how + ", " + what + ")", shelf.finding(how, what), want[how][what]);
            }
            Due.due("finding(" + how + ", -1)", shelf.finding(how, -1), Due.NONE);
            Due.due("finding(" + how + ", 3)", shelf.finding(how, 3), Due.NONE);
            Due.due("finding(-1, " + how + ")", shelf.finding(-1, how), Due.NONE);
            Due.due("finding(3, " + how + ")", shelf.finding(3, how), Due.NONE);
        }
        for (int off : OFF) {
            Due.due("finding(0, " + off + ")", shelf.finding(0, off), Due.NONE);
            Due.due("finding(" + off + ", 0)", shelf.finding(off, 0), Due.NONE);
        }
    }

    private static void findingOfNone() {
        TermShelf shelf = Due.shelf(TEXT, "f(a,b)");
        for (int rule = 0; rule < 3; rule++) {
            shelf.take(rule);
        }
        TermShelf none = Due.shelf(SIGNS, "f(a,b)");
        for (int how = 0; how <= 2; how++) {
            for (int what = 0; what <= 2; what++) {
                Due.due("finding, all out", shelf.finding(how, what), 0);
                Due.due("finding, no rules", none.finding(how, what), 0);
            }
            Due.due("found, all out", shelf.found(how, 0), Due.MISSING);
            Due.due("specific, all out", shelf.specific(how), Due.MISSING);
            Due.due("specific, no rules", none.specific(how), Due.MISSING);
        }
    }

    private static void visits(String rule, String query, int... visited) {
        TermShelf shelf = Due.shelf(SIGNS + "rule p " + rule + ";", query);
        for (int how = 0; how < 3; how++) {
            Due.due("finding(" + how + ", 2) of " + rule + ", " + query, shelf.finding(how, 2), visited[how]);
        }
    }

    /** "VISITED ..: (ROOT isn't counted, NODES between, where a whole TERM is passed, neither)". */
    private static void rootIsNotCounted() {
        visits("a", "b", 0, 0, 0);
        visits("a", "a", 1, 1, 1);
        visits("x", "a", 1, 0, 1);
        visits("x", deep(12, "a"), 1, 0, 1);
        visits("a", "x", 0, 1, 1);
        visits("x", "x", 1, 1, 1);
        visits(deep(12, "a"), "x", 0, 1, 1);
        visits(deep(12, "a"), deep(12, "a"), 12, 12, 12);
        visits(deep(12, "a"), deep(12, "b"), 11, 11, 11);
        visits(deep(12, "a"), deep(12, "x"), 11, 12, 12);
        visits(deep(12, "x"), deep(12, "a"), 12, 11, 12);
        visits("h(f(a,b),g(a),a)", "h(x,y,a)", 1, 4, 4);
        visits("h(f(a,b),g(a),a)", "h(x,y,b)", 1, 3, 3);
        visits("h(x,y,a)", "h(f(a,b),g(a),a)", 4, 1, 4);
        visits("h(x,y,b)", "h(f(a,b),g(a),a)", 3, 1, 3);
    }

    /** filled: "for a VARIABLE 0 .. 3", "-2: .. it isn't in its TERM (nor is one that the TEXT doesn't tell)". */
    private static void filledVariables() {
        TermShelf shelf = Due.shelf(SIGNS + "var z;rule p f(x,z);", "f(a,g(b))");
        int[] want = {Due.NONE, 0, Due.MISSING, 3, Due.MISSING, Due.NONE, Due.NONE};
        for (int variable = -1; variable <= 5; variable++) {
            Due.due("filled(0, " + variable + ", 0)", shelf.filled(0, variable, 0), want[variable + 1]);
        }
        for (int off : OFF) {
            Due.due("filled(0, " + off + ", 0)", shelf.filled(0, off, 0), Due.NONE);
        }
        TermShelf four = Due.shelf(SIGNS + "var z;var w;rule p f(h(x,y,z),w);", "f(h(a,b,x),w)");
        int[] all = {0, 1, 100, 103};
        for (int variable = 0; variable < 4; variable++) {
            Due.due("filled(0, " + variable + ", 0) of four", four.filled(0, variable, 0), all[variable]);
            Due.due("filled(0, " + variable + ", 1) of four", four.filled(0, variable, 1), Due.MISSING);
        }
        Due.due("filled(0, 4, 0) of four", four.filled(0, 4, 0), Due.NONE);
        TermShelf ground = Due.shelf("sign a 0;rule p a;", "a");
        for (int variable = 0; variable < 4; variable++) {
            Due.due("filled, none is told", ground.filled(0, variable, 0), Due.MISSING);
        }
        Due.due("filled, none is told", ground.filled(0, 4, 0), Due.NONE);
    }

    /** filled: "the k-th CODE, from 0 on", "-2: there are no so many". */
    private static void filledNumbers() {
        TermShelf shelf = Due.shelf(SIGNS + "rule p x;rule q g(x);", deep(12, "y"));
        Due.due("filled(0, 0, -1)", shelf.filled(0, 0, -1), Due.NONE);
        Due.due("filled(0, 0, MIN)", shelf.filled(0, 0, Integer.MIN_VALUE), Due.NONE);
        for (int k = 0; k <= 10; k++) {
            Due.due("filled(0, 0, " + k + ")", shelf.filled(0, 0, k), 3);
        }
        Due.due("filled(0, 0, 11)", shelf.filled(0, 0, 11), 101);
        Due.due("filled(0, 0, 12)", shelf.filled(0, 0, 12), Due.MISSING);
        Due.due("filled(0, 0, MAX)", shelf.filled(0, 0, Integer.MAX_VALUE), Due.MISSING);
        Due.due("filled(1, 0, 9)", shelf.filled(1, 0, 9), 3);
        Due.due("filled(1, 0, 10)", shelf.filled(1, 0, 10), 101);
        Due.due("filled(1, 0, 11)", shelf.filled(1, 0, 11), Due.MISSING);
        TermShelf inside = Due.shelf(SIGNS + "rule p h(x,y,x);", "h(g(a),b,g(a))");
        Due.due("filled(0, 0, 1)", inside.filled(0, 0, 1), 0);
        Due.due("filled(0, 0, 2), the next argument's is not told", inside.filled(0, 0, 2), Due.MISSING);
        Due.due("filled(0, 1, 0)", inside.filled(0, 1, 0), 1);
        Due.due("filled(0, 1, 1)", inside.filled(0, 1, 1), Due.MISSING);
    }

    /** filled: "-2: .. it isn't GENERAL; NONE: no such ones, no QUERY, it isn't IN". */
    private static void filledRefused() {
        TermShelf shelf = Due.shelf(TEXT);
        Due.due("no query", shelf.filled(0, 0, 0), Due.NONE);
        Due.ask(shelf, "f(a,b)");
        Due.due("p is general", shelf.filled(0, 1, 0), 1);
        Due.due("q is not general", shelf.filled(1, 0, 0), Due.MISSING);
        Due.due("q is not general, variable 3", shelf.filled(1, 3, 0), Due.MISSING);
        Due.due("q is not general, variable 4", shelf.filled(1, 4, 0), Due.NONE);
        Due.due("q is not general, k -1", shelf.filled(1, 0, -1), Due.NONE);
        Due.due("rule -1", shelf.filled(-1, 0, 0), Due.NONE);
        Due.due("rule 3", shelf.filled(3, 0, 0), Due.NONE);
        for (int off : OFF) {
            Due.due("rule " + off, shelf.filled(off, 0, 0), Due.NONE);
        }
        shelf.take(0);
        shelf.take(1);
        Due.due("p is out", shelf.filled(0, 1, 0), Due.NONE);
        Due.due("p is out, far k", shelf.filled(0, 1, 5), Due.NONE);
        Due.due("q is out and not general", shelf.filled(1, 0, 0), Due.NONE);
        shelf.put(0);
        Due.due("p is in again", shelf.filled(0, 1, 0), 1);
        Due.ask(shelf, "f(x,x)");
        Due.due("of the query's variable", shelf.filled(0, 1, 0), 100);
        Due.due("an instance is not general", shelf.filled(2, 0, 0), Due.MISSING);
    }

    /** meeting: "-2: there are no so many, they aren't UNIFIED ..; NONE: no such ones, no QUERY, it isn't IN". */
    private static void meetingArguments() {
        TermShelf shelf = Due.shelf(TEXT);
        Due.due("no query", shelf.meeting(0, 0), Due.NONE);
        Due.ask(shelf, "f(a,b)");
        int[] codes = {Due.NONE, 2, 0, 1, Due.MISSING, Due.MISSING};
        for (int k = -1; k <= 4; k++) {
            Due.due("meeting(0, " + k + ")", shelf.meeting(0, k), codes[k + 1]);
        }
        Due.due("meeting(0, MAX)", shelf.meeting(0, Integer.MAX_VALUE), Due.MISSING);
        Due.due("meeting(0, MIN)", shelf.meeting(0, Integer.MIN_VALUE), Due.NONE);
        Due.due("not unified", shelf.meeting(1, 0), Due.MISSING);
        Due.due("not unified, k -1", shelf.meeting(1, -1), Due.NONE);
        Due.due("rule -1", shelf.meeting(-1, 0), Due.NONE);
        Due.due("rule 3", shelf.meeting(3, 0), Due.NONE);
        for (int off : OFF) {
            Due.due("rule " + off, shelf.meeting(off, 0), Due.NONE);
        }
        shelf.take(0);
        shelf.take(1);
        Due.due("p is out", shelf.meeting(0, 0), Due.NONE);
        Due.due("p is out, far k", shelf.meeting(0, 60), Due.NONE);
        Due.due("q is out and not unified", shelf.meeting(1, 0), Due.NONE);
    }

    /** "60 PLACES at most (else it isn't told)": with 8 places for x, 59, 60 and 61 places. */
    private static void meetingOfSixty() {
        String query = "h(" + deep(8, "y") + ",x,z)";
        String[] rules = {"h(x,h(x,x,x),h(x,x,x))", "h(x,h(g(x),x,x),h(x,x,x))", "h(x,h(g(x),g(x),x),h(x,x,x))"};
        for (int i = 0; i < 3; i++) {
            int places = 59 + i;
            TermShelf shelf = Due.shelf(SIGNS + "var z;rule p " + rules[i] + ";", query);
            Due.due(places + " places unify", shelf.fits(2, 0), 1);
            Due.due(places + " places are found", shelf.found(2, 0), 0);
            Due.due("the first of " + places, shelf.meeting(0, 0), places <= 60 ? 4 : Due.MISSING);
            Due.due("the 59th of " + places, shelf.meeting(0, 58), places == 59 ? 100 : places == 60 ? 3 : Due.MISSING);
            Due.due("the 60th of " + places, shelf.meeting(0, 59), places == 60 ? 100 : Due.MISSING);
            Due.due("the 61st of " + places, shelf.meeting(0, 60), Due.MISSING);
        }
    }

    private static void met(String rule, String query, int... codes) {
        TermShelf shelf = Due.shelf(SIGNS + "var z;var w;rule p " + rule + ";", query);
        for (int k = 0; k < codes.length; k++) {
            Due.due("meeting(0, " + k + ") of " + rule + ", " + query, shelf.meeting(0, k), codes[k]);
        }
        Due.due("meeting, behind, of " + rule + ", " + query, shelf.meeting(0, codes.length), Due.MISSING);
    }

    /** "with VARIABLES numbered from 100 on as they first come", be they more than four. */
    private static void meetingShape() {
        met("y", "w", 100);
        met("f(y,x)", "f(w,z)", 2, 100, 101);
        met("f(y,x)", "f(w,w)", 2, 100, 100);
        met("f(x,h(w,z,y))", "f(h(w,z,y),x)", 2, 4, 100, 101, 102, 4, 103, 104, 105);
        met("f(x,h(x,z,y))", "f(h(w,z,y),x)", 2, 4, 100, 101, 102, 4, 4, 100, 101, 102, 103, 104);
        met("a", "a", 0);
        met("a", "b");
        met("f(x,x)", "f(y,g(y))");
        met("y", "a", 0);
        met("a", "y", 0);
        met(deep(12, "x"), deep(12, "y"), 3, 3, 3, 3, 3, 3, 3, 3, 3, 3, 3, 100);
        met("h(h(x,y,z),f(w,a),h(x,y,z))", "h(h(x,y,z),f(w,a),h(w,y,x))",
                4, 4, 100, 101, 100, 2, 100, 0, 4, 100, 101, 100);
    }

    /** specific: "-2: none is FOUND; NONE: no such way, no QUERY". */
    private static void specificArguments() {
        TermShelf shelf = Due.shelf(TEXT);
        for (int how = -1; how <= 3; how++) {
            Due.due("specific(" + how + "), no query", shelf.specific(how), Due.NONE);
        }
        Due.ask(shelf, "f(a,b)");
        int[] want = {Due.NONE, 2, 2, 2, Due.NONE, Due.NONE};
        for (int how = -1; how <= 4; how++) {
            Due.due("specific(" + how + ")", shelf.specific(how), want[how + 1]);
        }
        for (int off : OFF) {
            Due.due("specific(" + off + ")", shelf.specific(off), Due.NONE);
        }
        Due.ask(shelf, "a");
        for (int how = 0; how <= 2; how++) {
            Due.due("specific(" + how + ") of none", shelf.specific(how), Due.MISSING);
        }
        Due.due("specific(3) of none", shelf.specific(3), Due.NONE);
    }

    /** "(a VARIANT is above), or, if there is none, the first by numbers". */
    private static void specificOfVariants() {
        TermShelf shelf = Due.shelf(SIGNS + "rule p f(x,y);rule q f(y,x);rule r g(x);", "f(a,b)");
        Due.due("both are above one another", shelf.specific(0), 0);
        shelf.take(0);
        Due.due("one alone", shelf.specific(0), 1);
        shelf.take(1);
        Due.due("none", shelf.specific(0), Due.MISSING);
        TermShelf last = Due.shelf(SIGNS + "rule p x;rule q f(x,y);rule r f(y,x);rule s f(a,y);", "f(a,b)");
        Due.due("below the variants", last.specific(0), 3);
        last.take(3);
        Due.due("variants alone are above none but one another", last.specific(0), 0);
        last.take(2);
        Due.due("the lower one", last.specific(0), 1);
        TermShelf behind = Due.shelf(SIGNS + "rule p g(x);rule q f(x,y);rule r f(y,x);", "f(a,b)");
        Due.due("the first of variants behind one that is not found", behind.specific(0), 1);
        TermShelf two = Due.shelf(SIGNS + "rule p x;rule q f(x,b);rule r f(a,x);", "f(a,b)");
        Due.due("the first of two", two.specific(0), 1);
        Due.due("of sixteen alike", Due.shelf(sixteen("x"), "a").specific(0), 0);
        TermShelf out = Due.shelf(SIGNS + "rule p f(x,y);rule q f(a,y);", "f(a,b)");
        Due.due("q is below", out.specific(0), 1);
        out.take(1);
        Due.due("q is not found, so p is above none", out.specific(0), 0);
    }

    private static void drawn(TermShelf shelf, int seed, int... codes) {
        Due.due("draw(" + seed + ")", shelf.draw(seed), codes.length);
        Due.due("places of draw(" + seed + ")", shelf.count(7), codes.length);
        for (int k = 0; k < codes.length; k++) {
            Due.due("drawn by " + seed + " at " + k, shelf.asked(k), codes[k]);
        }
    }

    /** draw: "the seed 0 .. 2147483647", "NONE: the seed is below 0". */
    private static void drawnSeeds() {
        TermShelf shelf = Due.shelf("sign f 2;sign g 1;sign a 0;var x;");
        for (int seed : new int[] {-1, -2, Integer.MIN_VALUE, Integer.MIN_VALUE + 1}) {
            Due.due("draw(" + seed + ")", shelf.draw(seed), Due.NONE);
        }
        Due.due("no query then", shelf.count(7), 0);
        drawn(shelf, 0, 0, 0, 0, 1, 2, 100, 1, 1, 2, 2);
        drawn(shelf, 1, 2);
        drawn(shelf, 2147483646, 100);
        drawn(shelf, 2147483647, 1, 1, 2);
        Due.due("draw(-1)", shelf.draw(-1), Due.NONE);
        Due.due("the query stays", shelf.asked(2), 2);
        TermShelf four = Due.shelf("var w;var x;var y;var z;");
        drawn(four, 0, 100);
        drawn(four, 1, 102);
        drawn(four, 2147483647, 101);
        drawn(four, 2147483646, 103);
        TermShelf one = Due.shelf("sign a 0;");
        drawn(one, 0, 0);
        drawn(one, 2147483647, 0);
    }

    /** "as many PLACES as are filled and still to be filled then may not be more than 12". */
    private static void drawnUpToTwelve() {
        TermShelf sign = Due.shelf("sign g 1;sign c 0;");
        TermShelf variable = Due.shelf("sign g 1;var x;");
        int[] seeds = {3, 2, 1, 0, 7, 14, 189, 67, 120, 365, 942, 4480};
        for (int places = 1; places <= 12; places++) {
            int seed = seeds[places - 1];
            Due.due("draw(" + seed + ")", sign.draw(seed), places);
            Due.due("its last code", sign.asked(places - 1), 1);
            Due.due("draw(" + seed + ") with a variable", variable.draw(seed), places);
            Due.due("its last code", variable.asked(places - 1), 100);
        }
        TermShelf wide = Due.shelf("sign h 3;sign c 0;sign f 2;");
        drawn(wide, 0, 0, 0, 1, 1, 0, 1, 1, 1, 2, 1, 1, 1);
        drawn(wide, 1, 2, 1, 0, 1, 1, 2, 0, 1, 1, 1, 1);
        drawn(wide, 2147483647, 2, 2, 1, 0, 1, 2, 2, 1, 1, 1, 1, 1);
        drawn(wide, 2147483646, 2, 0, 1, 0, 2, 1, 1, 1, 1, 1, 1);
        drawn(Due.shelf("sign h 3;var x;"), 1, 0, 0, 100, 100, 100, 100, 0, 100, 100, 100);
        drawn(Due.shelf("sign h 3;var x;"), 0, 0, 0, 0, 100, 100, 100, 100, 100, 100, 100);
    }

    /** "(without one too, no TERM)"; draw: "-2: none can be drawn (the QUERY stays)". */
    private static void drawnWithoutEnds() {
        for (String text : new String[] {"", "sign g 1;", "sign f 2;", "sign h 3;", "sign g 1;sign f 2;sign h 3;"}) {
            TermShelf shelf = Due.shelf(text);
            for (int seed : new int[] {0, 1, 2147483647}) {
                Due.due("draw(" + seed + ") of: " + text, shelf.draw(seed), Due.MISSING);
                Due.due("chance(" + seed + ", 0) of: " + text, shelf.chance(seed, 0), Due.MISSING);
            }
            Due.due("draw(-1) of: " + text, shelf.draw(-1), Due.NONE);
            Due.due("chance(-1, 0) of: " + text, shelf.chance(-1, 0), Due.NONE);
            Due.due("chance(0, 3) of: " + text, shelf.chance(0, 3), Due.NONE);
            Due.due("no query then", shelf.count(7), 0);
        }
    }

    /** chance: "by FINDING 0 .. 2", "(the QUERY stays)", "NONE: no such ones". */
    private static void chanceArguments() {
        TermShelf shelf = Due.shelf("sign a 0;sign b 0;rule p a;", "b");
        int[] byHow = {Due.NONE, 6, 6, 6, Due.NONE, Due.NONE};
        for (int how = -1; how <= 4; how++) {
            Due.due("chance(0, " + how + ")", shelf.chance(0, how), byHow[how + 1]);
        }
        for (int off : OFF) {
            Due.due("chance(0, " + off + ")", shelf.chance(0, off), Due.NONE);
        }
        for (int seed : new int[] {-1, -2, Integer.MIN_VALUE}) {
            Due.due("chance(" + seed + ", 0)", shelf.chance(seed, 0), Due.NONE);
        }
        Due.due("the query stays", shelf.asked(0), 1);
        Due.due("its places", shelf.count(7), 1);
        TermShelf none = Due.shelf("sign a 0;sign b 0;rule p a;");
        Due.due("chance(0, 0) without a query", none.chance(0, 0), 6);
        Due.due("there is none still", none.count(7), 0);
        none.take(0);
        Due.due("chance(0, 0), all out", none.chance(0, 0), 0);
        Due.due("chance(0, 0), no rules", Due.shelf("sign a 0;").chance(0, 0), 0);
        Due.due("chance(0, 0), always found", Due.shelf("sign a 0;rule p a;").chance(0, 0), 10);
    }

    /** "DRAWN ten times, one behind another from a seed on". */
    private static void chanceNumbers() {
        TermShelf shelf = Due.shelf("sign a 0;sign b 0;rule p a;");
        int[][] want = {{0, 6}, {1, 5}, {2, 4}, {5, 5}, {2147483647, 6}, {2147483646, 8}};
        for (int[] row : want) {
            Due.due("chance(" + row[0] + ", 0)", shelf.chance(row[0], 0), row[1]);
        }
        TermShelf deeper = Due.shelf("sign a 0;sign g 1;var x;rule p g(x);");
        int[][] ways = {{5, 0, 5}, {3, 2, 4}, {5, 7, 10}};
        int[] seeds = {0, 1, 2147483647};
        for (int i = 0; i < 3; i++) {
            for (int how = 0; how <= 2; how++) {
                Due.due("chance(" + seeds[i] + ", " + how + ")", deeper.chance(seeds[i], how), ways[i][how]);
            }
        }
    }

    /** tried: "NONE: no such ones (i 0 of all but 2)". */
    private static void triedArguments() {
        TermShelf shelf = Due.shelf(TEXT, "f(a,b)");
        for (int what : new int[] {0, 1, 3, 4}) {
            for (int i : new int[] {-1, 1, 2, 3, 16, Integer.MIN_VALUE, Integer.MAX_VALUE}) {
                Due.due("tried(" + what + ", 0, " + i + ")", shelf.tried(what, 0, i), Due.NONE);
            }
            Due.due("tried(" + what + ", 0, 0)", shelf.tried(what, 0, 0), what < 2 ? 3 : 2);
        }
        int[] byRule = {Due.NONE, 1, 2, 1, Due.NONE, Due.NONE};
        for (int i = -1; i <= 4; i++) {
            Due.due("tried(2, 0, " + i + ")", shelf.tried(2, 0, i), byRule[i + 1]);
        }
        for (int off : OFF) {
            Due.due("tried(2, 0, " + off + ")", shelf.tried(2, 0, off), Due.NONE);
            Due.due("tried(0, " + off + ", 0)", shelf.tried(0, off, 0), Due.NONE);
            Due.due("tried(" + off + ", 0, 0)", shelf.tried(off, 0, 0), Due.NONE);
        }
        for (int what = 0; what <= 4; what++) {
            Due.due("tried(" + what + ", -1, 0)", shelf.tried(what, -1, 0), Due.NONE);
            Due.due("tried(" + what + ", 3, 0)", shelf.tried(what, 3, 0), Due.NONE);
        }
        for (int how = 0; how <= 2; how++) {
            Due.due("tried(-1, " + how + ", 0)", shelf.tried(-1, how, 0), Due.NONE);
            Due.due("tried(5, " + how + ", 0)", shelf.tried(5, how, 0), Due.NONE);
        }
    }

    /** tried: "-2: there is no QUERY", of what would be answered with one. */
    private static void triedWithoutAQuery() {
        TermShelf shelf = Due.shelf(TEXT);
        for (int what = 0; what <= 4; what++) {
            for (int how = 0; how <= 2; how++) {
                Due.due("tried(" + what + ", " + how + ", 0)", shelf.tried(what, how, 0), Due.MISSING);
            }
            Due.due("tried(" + what + ", 3, 0)", shelf.tried(what, 3, 0), Due.NONE);
            Due.due("tried(" + what + ", -1, 0)", shelf.tried(what, -1, 0), Due.NONE);
            Due.due("tried(" + what + ", 0, 3)", shelf.tried(what, 0, 3), Due.NONE);
            Due.due("tried(" + what + ", 0, -1)", shelf.tried(what, 0, -1), Due.NONE);
        }
        Due.due("tried(2, 0, 2)", shelf.tried(2, 0, 2), Due.MISSING);
        Due.due("tried(0, 0, 2)", shelf.tried(0, 0, 2), Due.NONE);
        Due.due("tried(5, 0, 0)", shelf.tried(5, 0, 0), Due.NONE);
        Due.due("tried(2, 0, 0), no rules", new TermShelf().tried(2, 0, 0), Due.NONE);
        Due.due("tried(3, 0, 0), no rules", new TermShelf().tried(3, 0, 0), Due.MISSING);
        Due.due("tried(3, 0, 0), no rules, a query", Due.shelf(SIGNS, "a").tried(3, 0, 0), 0);
        Due.due("tried(2, 0, 0), no rules, a query", Due.shelf(SIGNS, "a").tried(2, 0, 0), Due.NONE);
    }

    /** "2 without RULE i (IN or not)". */
    private static void triedWithoutARule() {
        TermShelf shelf = Due.shelf(sixteen("x"), "a");
        for (int i = 0; i < 16; i++) {
            Due.due("tried(2, 0, " + i + ")", shelf.tried(2, 0, i), 15);
        }
        Due.due("tried(2, 0, 16)", shelf.tried(2, 0, 16), Due.NONE);
        shelf.take(15);
        Due.due("tried(2, 0, 15), it is out", shelf.tried(2, 0, 15), 15);
        Due.due("tried(2, 0, 14), another one is out", shelf.tried(2, 0, 14), 14);
        Due.due("none is taken out", shelf.count(3), 15);
    }

    /** "3 if all RULES are IN". */
    private static void triedAllIn() {
        TermShelf shelf = Due.shelf(sixteen("x"), "a");
        Due.due("tried(3, 0, 0)", shelf.tried(3, 0, 0), 16);
        for (int rule = 0; rule < 16; rule++) {
            shelf.take(rule);
        }
        Due.due("tried(3, 0, 0), all out", shelf.tried(3, 0, 0), 16);
        Due.due("tried(3, 1, 0), all out", shelf.tried(3, 1, 0), 0);
        Due.due("tried(0, 0, 0), all out", shelf.tried(0, 0, 0), 0);
        Due.due("tried(1, 0, 0), all out", shelf.tried(1, 0, 0), 0);
        Due.due("tried(2, 0, 0), all out", shelf.tried(2, 0, 0), 0);
        Due.due("tried(4, 0, 0), all out", shelf.tried(4, 0, 0), 0);
        Due.due("none is put in", shelf.count(3), 0);
        Due.due("nor can more be undone", shelf.count(10), 16);
    }

    private static void tries(int what, String rule, String query, int... want) {
        TermShelf shelf = Due.shelf(SIGNS + "rule p " + rule + ";", query);
        for (int how = 0; how <= 2; how++) {
            Due.due("tried(" + what + ", " + how + ", 0) of " + rule + ", " + query, shelf.tried(what, how, 0), want[how]);
        }
    }

    /** "0 if each VARIABLE that comes again may be filled otherwise each time .., 1 if those of RULES may". */
    private static void triedLoose() {
        tries(0, "f(x,x)", "f(a,b)", 1, 0, 1);
        tries(1, "f(x,x)", "f(a,b)", 1, 0, 1);
        tries(0, "f(a,b)", "f(x,x)", 0, 1, 1);
        tries(1, "f(a,b)", "f(x,x)", 0, 0, 0);
        tries(0, "f(x,x)", "f(y,g(y))", 1, 0, 1);
        tries(1, "f(x,x)", "f(y,g(y))", 1, 0, 1);
        tries(0, "f(x,g(x))", "f(y,y)", 0, 1, 1);
        tries(1, "f(x,g(x))", "f(y,y)", 0, 0, 1);
        tries(0, "f(x,y)", "f(a,b)", 1, 0, 1);
        tries(1, "f(x,y)", "f(a,b)", 1, 0, 1);
        tries(0, "f(x,a)", "f(a,b)", 0, 0, 0);
        tries(0, "h(x,x,x)", "h(a,b,g(a))", 1, 0, 1);
        tries(1, "h(x,x,x)", "h(y,y,a)", 1, 0, 1);
        tries(1, "h(x,a,b)", "h(a,y,y)", 0, 0, 0);
        tries(0, "h(x,a,b)", "h(a,y,y)", 0, 0, 1);
    }

    /** "4 if the QUERY's VARIABLES are all one". */
    private static void triedAsOne() {
        tries(4, "f(a,b)", "f(x,y)", 0, 0, 0);
        tries(4, "f(a,a)", "f(x,y)", 0, 1, 1);
        tries(4, "f(x,x)", "f(x,y)", 1, 1, 1);
        tries(4, "f(x,y)", "f(x,y)", 1, 0, 1);
        tries(4, "f(x,g(x))", "f(x,y)", 0, 0, 0);
        tries(4, "g(x)", "y", 0, 1, 1);
        tries(4, "g(a)", "g(a)", 1, 1, 1);
        TermShelf shelf = Due.shelf(SIGNS + "rule p f(x,x);", "f(x,y)");
        Due.due("tried(4, 0, 0)", shelf.tried(4, 0, 0), 1);
        Due.due("the query stays", shelf.asked(2), 101);
        Due.due("it is not found so", shelf.finding(0, 0), 0);
    }
}
