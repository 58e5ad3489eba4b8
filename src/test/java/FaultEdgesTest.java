/** Edges of "Terms" 1 and 2: how much there may be at most, what is a FAULT, and at which place. */
public final class FaultEdgesTest {
    private static final String NAMES = "abcdefghijklmnopqrstuvwxyz";
    private static final String SIGNS = "sign a 0;sign g 1;sign f 2;sign h 3;var x;var y;";
    private static final String[] WRONG_HERE = {"?", "Z", "abcdefg", "sign", "var", "rule", "0", "3", "4", "(", ")",
        ",", "=", ";"};

    public static void main(String[] args) {
        eightSigns();
        fourVariables();
        sixteenRules();
        allFull();
        arities();
        lettersOfNames();
        wordsOfTheLanguage();
        lineEnds();
        moreMustCome();
        wrongTokens();
        namesToldAlready();
        ruleNamesAreTheirOwn();
        namesOfAnEarlierText();
        twelvePlaces();
        twelvePlacesOfARightTerm();
        twelvePlacesOfAQuery();
        placesAreCountedForEachTerm();
        brackets();
        notToldAhead();
        variablesOfRightTerms();
        firstAlongTheText();
        leastOfOnePlace();
        queriesAlone();
        noQuery();
        codes();
        Due.end("FaultEdgesTest");
    }

    private static String lines(String word, int from, int count, String rest) {
        StringBuilder text = new StringBuilder();
        for (int i = from; i < from + count; i++) {
            text.append(word).append(' ').append(NAMES.charAt(i)).append(rest).append(';');
        }
        return text.toString();
    }

    /** "SIGNS, at most 8", "a ninth sign .. (at the word of the LINE)". */
    private static void eightSigns() {
        Due.goodText(lines("sign", 0, 7, " 0"), 7);
        Due.goodText(lines("sign", 0, 8, " 0"), 8);
        String eight = lines("sign", 0, 8, " 3");
        Due.faultyText(lines("sign", 0, 9, " 3"), 2, eight.length());
        Due.faultyText(eight + "var x; \n sign", 2, eight.length() + 9);
        Due.faultyText(eight + "sign a 0;", 2, eight.length());
        Due.faultyText(eight + "sign z 4;", 2, eight.length());
        Due.faultyText(eight + "sign ?", 2, eight.length());
        Due.faultyText(eight + "sig", 1, eight.length());
        Due.goodText(eight + "var x;rule p x;", 10);
    }

    /** "VARIABLES, at most 4". */
    private static void fourVariables() {
        Due.goodText(lines("var", 0, 3, ""), 3);
        Due.goodText(lines("var", 0, 4, ""), 4);
        String four = lines("var", 0, 4, "");
        Due.faultyText(lines("var", 0, 5, ""), 2, four.length());
        Due.faultyText(four + "sign e 0; \n var", 2, four.length() + 12);
        Due.faultyText(four + "var a;", 2, four.length());
        Due.faultyText(four + "var ?", 2, four.length());
        Due.faultyText(four + "va", 1, four.length());
        Due.goodText(four + "sign e 3;rule p a;", 6);
    }

    /** "RULES, at most 16". */
    private static void sixteenRules() {
        String start = "sign a 0;";
        Due.goodText(start + lines("rule", 0, 15, " a"), 16);
        Due.goodText(start + lines("rule", 0, 16, " a"), 17);
        String sixteen = start + lines("rule", 0, 16, " a=a");
        Due.goodText(sixteen, 17);
        Due.faultyText(start + lines("rule", 0, 17, " a=a"), 2, sixteen.length());
        Due.faultyText(sixteen + "\n\nrule", 2, sixteen.length() + 2);
        Due.faultyText(sixteen + "rule a a;", 2, sixteen.length());
        Due.faultyText(sixteen + "rule z b;", 2, sixteen.length());
        Due.faultyText(sixteen + "rul", 1, sixteen.length());
        Due.goodText(sixteen + "var x;sign b 0;", 19);
    }

    private static void allFull() {
        String full = lines("sign", 0, 8, " 0") + lines("var", 8, 4, "") + lines("rule", 0, 16, " l");
        Due.goodText(full, 28);
        TermShelf shelf = Due.shelf(full);
        Due.due("signs", shelf.count(0), 8);
        Due.due("variables", shelf.count(1), 4);
        Due.due("rules", shelf.count(2), 16);
        Due.due("rules in", shelf.count(3), 16);
        Due.due("rule 15", shelf.code(15, 0, false), 103);
        Due.due("rule 16", shelf.code(16, 0, false), Due.NONE);
        Due.faultyText(full + "sign z 0;", 2, full.length());
        Due.faultyText(full + "var z;", 2, full.length());
        Due.faultyText(full + "rule z a;", 2, full.length());
    }

    /** "ARITY 0 .. 3", "a number beyond what is said" (at it), also one that an int can't hold. */
    private static void arities() {
        String[] good = {"0", "1", "2", "3", "00", "03", "0000000000003"};
        for (String number : good) {
            Due.goodText("sign a " + number + ";", 1);
        }
        String[] beyond = {"4", "04", "5", "9", "10", "13", "30", "33", "100", "256", "259", "1000", "2147483647",
            "2147483648", "4294967295", "4294967296", "4294967299", "18446744073709551616", "18446744073709551619",
            "99999999999999999999999999"};
        for (String number : beyond) {
            Due.faultyText("sign a " + number + ";", 2, 7);
            Due.faultyText("sign a  " + number, 2, 8);
        }
        Due.faultyText("sign a -1;", 1, 7);
        Due.faultyText("sign a +1;", 1, 7);
        Due.faultyText("sign a 1 2;", 1, 9);
        String[] terms = {"a", "a(a0)", "a(a0,a0)", "a(a0,a0,a0)"};
        for (int arity = 0; arity <= 3; arity++) {
            TermShelf shelf = Due.shelf("sign a " + arity + ";sign b 0;");
            Due.goodQuery(shelf, terms[arity].replace("a0", "b"), 1 + arity);
        }
    }

    /** "W: one of 1 .. 6 letters", "a word of more than 6 letters" is FAULT 1. */
    private static void lettersOfNames() {
        for (int length = 1; length <= 6; length++) {
            String name = NAMES.substring(0, length);
            Due.goodText("sign " + name + " 0;rule " + name + " " + name + ";", 2);
            Due.goodText("var " + name + ";rule " + name + " " + name + " = " + name + ";", 2);
            TermShelf shelf = Due.shelf("sign " + name + " 0;");
            Due.goodQuery(shelf, name, 1);
            Due.due("named " + name, shelf.named(0, Due.letters(name)), 0);
        }
        String[] longer = {"abcdefg", "abcdefgh", "signsig", "signvar", "aaaaaaaaaaaaaaaaaaaaaaaaaaaaaaaaaaaaaaaaaa"};
        for (String name : longer) {
            Due.faultyText(name, 1, 0);
            Due.faultyText("sign " + name + " 0;", 1, 5);
            Due.faultyText("var " + name + ";", 1, 4);
            Due.faultyText("var x;rule " + name + " x;", 1, 11);
            Due.faultyText("var x;rule p " + name + ";", 1, 13);
            Due.faultyText("var x;rule p x=" + name + ";", 1, 15);
            Due.faultyQuery(Due.shelf("var x;sign abcdef 0;"), name, 1, 0);
        }
        Due.faultyText("sign 0;", 1, 5);
        Due.faultyText("var ;", 1, 4);
        Due.faultyText("var x;rule ;", 1, 11);
    }

    /** "none of those of the language"; a word that only begins or ends as one may be. */
    private static void wordsOfTheLanguage() {
        for (String word : new String[] {"sign", "var", "rule"}) {
            Due.faultyText("sign " + word + " 0;", 1, 5);
            Due.faultyText("var " + word + ";", 1, 4);
            Due.faultyText("var x;rule " + word + " x;", 1, 11);
            Due.faultyText("var x;rule p " + word + ";", 1, 13);
            Due.faultyText("var x;rule p x=" + word + ";", 1, 15);
            Due.faultyQuery(Due.shelf("var x;"), word, 1, 0);
        }
        for (String word : new String[] {"signa", "asign", "sig", "signs", "va", "vars", "avar", "rul", "rules", "r",
            "s", "v", "ruler", "signaa", "variab", "ruleru"}) {
            Due.goodText("sign " + word + " 0;rule " + word + " " + word + ";", 2);
            Due.goodText("var " + word + ";", 1);
            Due.faultyText(word + " x 0;", 1, 0);
        }
    }

    /** "{ LINE ';' }": each line ends so, the last one too. */
    private static void lineEnds() {
        String[] each = {"sign a 0", "var x", "var x;rule p x", "var x;rule p x = x"};
        int[] lines = {1, 1, 2, 2};
        for (int i = 0; i < each.length; i++) {
            Due.goodText(each[i] + ";", lines[i]);
            Due.goodText(each[i] + " \n ; ", lines[i]);
            Due.faultyText(each[i], 1, each[i].length());
            Due.faultyText(each[i] + " \n", 1, each[i].length() + 2);
            Due.faultyText(each[i] + ";;", 1, each[i].length() + 1);
            Due.faultyText(each[i] + " sign b 0;", 1, each[i].length() + 1);
        }
    }

    /** "the length, if more must come": wherever a text of one rule is cut off between its tokens. */
    private static void moreMustCome() {
        String[] signLine = {"sign", " a", " 0", ";"};
        String[] varLine = {"var", " x", ";"};
        String[] ruleLine = {"rule", " p", " f", " (", " x", " ,", " g", " (", " y", " )", " )", " =", " g", "(", "x",
            ")", ";"};
        cut("", signLine);
        cut("", varLine);
        cut(SIGNS, ruleLine);
        TermShelf shelf = Due.shelf(SIGNS);
        String[] query = {"h", "(", "g", "(", "x", ")", ",", "a", ",", "y", ")"};
        StringBuilder text = new StringBuilder();
        for (String token : query) {
            Due.faultyQuery(shelf, text.toString(), 1, text.length());
            Due.faultyQuery(shelf, text + " ", 1, text.length() + 1);
            text.append(token);
        }
        Due.goodQuery(shelf, text.toString(), 5);
    }

    private static void cut(String ahead, String[] tokens) {
        StringBuilder text = new StringBuilder(ahead);
        for (int i = 0; i < tokens.length; i++) {
            if (i > 0) {
                Due.faultyText(text.toString(), 1, text.length());
                Due.faultyText(text + " \n ", 1, text.length() + 3);
            }
            text.append(tokens[i]);
        }
        Due.goodText(text.toString(), ahead.isEmpty() ? 1 : 7);
    }

    /** "a TOKEN that is none .. or can't stand there": each place of a line takes few tokens, all others are wrong. */
    private static void wrongTokens() {
        wrongBut("", "sign", "var", "rule");
        wrongBut("sign ");
        wrongBut("sign a ", "0", "3", "4");
        wrongBut("sign a 0 ", ";");
        wrongBut("var ");
        wrongBut("var x ", ";");
        wrongBut(SIGNS + "rule ");
        wrongBut(SIGNS + "rule p ");
        wrongBut(SIGNS + "rule p a ", "=", ";");
        wrongBut(SIGNS + "rule p x ", "=", ";");
        wrongBut(SIGNS + "rule p g ", "(");
        wrongBut(SIGNS + "rule p g ( ");
        wrongBut(SIGNS + "rule p g ( a ", ")");
        wrongBut(SIGNS + "rule p g ( a ) ", "=", ";");
        wrongBut(SIGNS + "rule p f ( a ", ",");
        wrongBut(SIGNS + "rule p f ( a , ");
        wrongBut(SIGNS + "rule p f ( a , a ", ")");
        wrongBut(SIGNS + "rule p f ( g ( a ) ", ",");
        wrongBut(SIGNS + "rule p f ( a , g ( a ) ", ")");
        wrongBut(SIGNS + "rule p a = ");
        wrongBut(SIGNS + "rule p a = a ", ";");
        wrongBut(SIGNS + "rule p a = g ", "(");
        wrongBut(SIGNS + "rule p a = g ( ");
        wrongBut(SIGNS + "rule p a = g ( a ", ")");
        wrongBut(SIGNS + "rule p a = g ( a ) ", ";");
    }

    private static void wrongBut(String ahead, String... right) {
        for (String token : WRONG_HERE) {
            boolean mayStand = false;
            for (String one : right) {
                mayStand |= one.equals(token);
            }
            if (!mayStand) {
                Due.faultyText(ahead + token, 1, ahead.length());
                Due.faultyText(ahead + token + " a", 1, ahead.length());
            }
        }
    }

    /** "3 told already: a name (at W)": of a sign and a variable none is like another one's. */
    private static void namesToldAlready() {
        String[] first = {"sign ab 0;", "var ab;"};
        for (String told : first) {
            int n = told.length();
            Due.faultyText(told + "sign ab 0;", 3, n + 5);
            Due.faultyText(told + "sign  ab 4;", 3, n + 6);
            Due.faultyText(told + "sign ab", 3, n + 5);
            Due.faultyText(told + "var ab;", 3, n + 4);
            Due.faultyText(told + "var ab", 3, n + 4);
            Due.faultyText(told + "sign c 0;var d;var ab;", 3, n + 19);
            Due.goodText(told + "sign a 0;sign abb 0;sign b 0;var ac;var aba;var ba;", 7);
        }
        Due.goodText("sign abcdef 0;sign abcdeg 0;sign abcdff 0;var bbcdef;var abcde;", 5);
        Due.faultyText("sign abcdef 0;sign abcdeg 0;var abcdef;", 3, 32);
        String eight = lines("sign", 0, 8, " 0");
        Due.faultyText(eight + "var h;", 3, eight.length() + 4);
        Due.faultyText(eight + "var a;", 3, eight.length() + 4);
        String four = lines("var", 0, 4, "");
        Due.faultyText(four + "sign d 0;", 3, four.length() + 5);
        Due.faultyText(four + "sign a 0;", 3, four.length() + 5);
    }

    /** "RULES names of their own (they may be as a SIGN's)". */
    private static void ruleNamesAreTheirOwn() {
        Due.goodText("sign a 0;var x;rule a a;rule x x;", 4);
        Due.goodText("sign a 0;rule p a;rule q a;sign p 0;var q;", 5);
        Due.faultyText("sign a 0;rule p a;rule p a;", 3, 23);
        Due.faultyText("sign a 0;rule a a;rule a", 3, 23);
        Due.faultyText("sign a 0;rule p a;rule q a;rule p", 3, 32);
        Due.faultyText("sign a 0;rule p a;rule q p;", 4, 25);
        String fifteen = "sign a 0;" + lines("rule", 0, 15, " a");
        Due.faultyText(fifteen + "rule o a;", 3, fifteen.length() + 5);
        Due.faultyText(fifteen + "rule a a;", 3, fifteen.length() + 5);
    }

    private static void namesOfAnEarlierText() {
        TermShelf shelf = Due.shelf("sign a 0;var x;rule p a;");
        Due.due("told otherwise", Due.told(shelf, "sign x 1;var a;rule p x(a);"), 3);
        Due.due("named x", shelf.named(0, Due.letters("x")), 0);
        Due.due("named a", shelf.named(0, Due.letters("a")), 100);
        Due.due("not told now", Due.told(shelf, "rule p a;"), Due.NONE);
        Due.faultIs(shelf, "not told now", 4, 7);
        Due.due("told twice", Due.told(shelf, "sign b 0;sign c 0;sign b 0;"), Due.NONE);
        Due.due("no fault now", Due.told(shelf, "sign b 0;sign c 0;"), 2);
        Due.due("a query of the earlier text", Due.ask(shelf, "a"), Due.NONE);
        Due.faultIs(shelf, "a query of the earlier text", 4, 0);
        Due.due("told wrongly", Due.told(shelf, "sign d 0;?"), Due.NONE);
        Due.due("a query of a faulty text", Due.ask(shelf, "d"), Due.NONE);
        Due.faultIs(shelf, "a query of a faulty text", 4, 0);
    }

    /** A term of so many places: g(g(..(leaf)..)). */
    private static String deep(int places, String leaf) {
        return Due.repeated("g(", places - 1) + leaf + Due.repeated(")", places - 1);
    }

    /** "12 at most", "a 13th PLACE of a TERM .. (at its W)". */
    private static void twelvePlaces() {
        String start = SIGNS + "rule p ";
        int n = start.length();
        Due.goodText(start + deep(11, "a") + ";", 7);
        Due.goodText(start + deep(12, "a") + ";", 7);
        Due.faultyText(start + deep(13, "a") + ";", 2, n + 24);
        Due.faultyText(start + deep(14, "a") + ";", 2, n + 24);
        Due.goodText(start + "h(h(x,x,x),h(x,x,x),g(x));", 7);
        Due.goodText(start + "h(h(x,x,x),h(x,x,x),f(x,x));", 7);
        Due.faultyText(start + "h(h(x,x,x),h(x,x,x),h(x,x,x));", 2, n + 26);
        Due.faultyText(start + "h(h(x,x,x),h(x,x,x),f(x, g(x)));", 2, n + 27);
        TermShelf shelf = Due.shelf(start + deep(12, "a") + ";");
        Due.due("its places", shelf.rule(0, 0), 12);
        Due.due("its 12th", shelf.code(0, 11, false), 0);
        Due.due("no 13th", shelf.code(0, 12, false), Due.MISSING);
    }

    /** "of a RIGHT TERM". */
    private static void twelvePlacesOfARightTerm() {
        String start = SIGNS + "rule p f(x,a)=";
        int n = start.length();
        Due.goodText(start + deep(11, "x") + ";", 7);
        Due.goodText(start + deep(12, "x") + ";", 7);
        Due.faultyText(start + deep(13, "x") + ";", 2, n + 24);
        Due.faultyText(start + "h(h(x,x,x),h(x,x,x),h(x,x,x));", 2, n + 26);
        TermShelf shelf = Due.shelf(start + deep(12, "x") + ";");
        Due.due("its places", shelf.rule(0, 1), 12);
        Due.due("its 12th", shelf.code(0, 11, true), 100);
        Due.due("no 13th", shelf.code(0, 12, true), Due.MISSING);
    }

    private static void twelvePlacesOfAQuery() {
        TermShelf shelf = Due.shelf(SIGNS);
        Due.goodQuery(shelf, deep(11, "a"), 11);
        Due.goodQuery(shelf, deep(12, "a"), 12);
        Due.due("its 12th", shelf.asked(11), 0);
        Due.due("no 13th", shelf.asked(12), Due.MISSING);
        Due.faultyQuery(shelf, deep(13, "a"), 2, 24);
        Due.faultyQuery(shelf, "h(h(x,x,x),h(x,x,x),h(x,x, x))", 2, 27);
        Due.due("the query stays", shelf.count(7), 12);
    }

    private static void placesAreCountedForEachTerm() {
        String twelve = deep(12, "x");
        Due.goodText(SIGNS + "rule p " + twelve + "=" + twelve + ";rule q " + twelve + "=" + twelve + ";", 8);
        TermShelf shelf = Due.shelf(SIGNS + "rule p " + twelve + ";rule q " + twelve + ";", twelve);
        Due.due("places in sum", shelf.count(6), 24);
        Due.due("the query's", shelf.count(7), 12);
    }

    /** "a bracket where ARITY has none, a ')' where more arguments must come, a ',' where none may". */
    private static void brackets() {
        String start = SIGNS + "rule p ";
        int n = start.length();
        Due.faultyText(start + "a(a);", 1, n + 1);
        Due.faultyText(start + "a();", 1, n + 1);
        Due.faultyText(start + "x(a);", 1, n + 1);
        Due.faultyText(start + "x();", 1, n + 1);
        Due.faultyText(start + "a);", 1, n + 1);
        Due.faultyText(start + "g;", 1, n + 1);
        Due.faultyText(start + "g();", 1, n + 2);
        Due.faultyText(start + "f();", 1, n + 2);
        Due.faultyText(start + "f(a);", 1, n + 3);
        Due.faultyText(start + "h(a);", 1, n + 3);
        Due.faultyText(start + "h(a,a);", 1, n + 5);
        Due.faultyText(start + "g(a,a);", 1, n + 3);
        Due.faultyText(start + "f(a,a,a);", 1, n + 5);
        Due.faultyText(start + "h(a,a,a,a);", 1, n + 7);
        Due.faultyText(start + "h(f(a,a,a),a,a);", 1, n + 7);
        Due.faultyText(start + "h(f(a),a,a);", 1, n + 5);
        Due.faultyText(start + "h(a,g(a,a),a);", 1, n + 7);
        Due.faultyText(start + "h(a,a(a),a);", 1, n + 5);
        Due.faultyText(start + "h(a,x(a),a);", 1, n + 5);
        Due.faultyText(start + "a,", 1, n + 1);
        Due.faultyText(start + "g(a))", 1, n + 4);
        Due.faultyText(start + "a=a(a);", 1, n + 3);
        Due.faultyText(start + "a=f(a);", 1, n + 5);
        Due.faultyText(start + "a=g(a,a);", 1, n + 5);
        Due.faultyText(start + "g(a a);", 1, n + 4);
        Due.faultyText(start + "g(a x);", 1, n + 4);
        Due.faultyText(start + "f(a a);", 1, n + 4);
        Due.faultyText(start + "f(a,a a);", 1, n + 6);
        Due.faultyText(start + "g(g(a a));", 1, n + 6);
        Due.faultyText(start + "g(g(a)a);", 1, n + 6);
        Due.faultyText(start + "a=g(a a);", 1, n + 6);
        Due.goodText(start + "h(a,f(x,g(y)),g(g(a)));", 7);
    }

    /** "4 a SIGN, a VARIABLE that isn't told ahead (at W)". */
    private static void notToldAhead() {
        Due.faultyText("rule p a;", 4, 7);
        Due.faultyText("rule p a;sign a 0;", 4, 7);
        Due.faultyText("rule p x;var x;", 4, 7);
        Due.faultyText("rule p p;", 4, 7);
        Due.faultyText("rule p  a(", 4, 8);
        Due.faultyText("sign a 0;rule p b;", 4, 16);
        Due.faultyText("sign g 1;rule p g(a);sign a 0;", 4, 18);
        Due.faultyText("sign a 0;rule p a=b;", 4, 18);
        Due.faultyText("sign a 0;rule p a=b;sign b 0;", 4, 18);
        Due.faultyText("sign a 0;rule p a;rule q p;", 4, 25);
        Due.faultyText("sign abc 0;rule p ab;", 4, 18);
        Due.faultyText("sign abc 0;rule p abcd;", 4, 18);
        Due.goodText("sign a 0;rule p a;sign b 0;rule q b=a;var x;rule r x;", 6);
        TermShelf shelf = Due.shelf("sign g 1;var x;rule p x;");
        Due.faultyQuery(shelf, "p", 4, 0);
        Due.faultyQuery(shelf, "g(y)", 4, 2);
        Due.faultyQuery(shelf, " g(g(gg))", 4, 5);
        Due.goodQuery(shelf, "g(x)", 2);
        Due.faultyQuery(new TermShelf(), "a", 4, 0);
    }

    /** "5 a VARIABLE in a RIGHT TERM that isn't in the TERM (at W)". */
    private static void variablesOfRightTerms() {
        String start = SIGNS + "rule p ";
        int n = start.length();
        Due.faultyText(start + "a=x;", 5, n + 2);
        Due.faultyText(start + "x=y;", 5, n + 2);
        Due.faultyText(start + "y=x;", 5, n + 2);
        Due.faultyText(start + "f(x,a)=f(x,y);", 5, n + 11);
        Due.faultyText(start + "f(x,a)=f(y,y);", 5, n + 9);
        Due.faultyText(start + "f(x,a)=y", 5, n + 7);
        Due.faultyText(start + "f(x,a)=y(a)", 5, n + 7);
        Due.faultyText(start + "f(x,y)=a;rule q x=y;", 5, n + 18);
        Due.goodText(start + "f(x,y)=f(y,x);", 7);
        Due.goodText(start + "f(y,x)=h(x,x,y);", 7);
        Due.goodText(start + "f(x,y)=a;", 7);
        Due.goodText(start + "x=x;rule q y=y;", 8);
        Due.goodText(start + deep(12, "y") + "=y;", 7);
        Due.faultyText(start + deep(12, "y") + "=x;", 5, n + 35);
        Due.faultyText(start + "a=z;", 4, n + 2);
    }

    /** "the first along the text", be it a greater one. */
    private static void firstAlongTheText() {
        Due.faultyText("rule p x = y; sign a 4; ?", 4, 7);
        Due.faultyText("var x;var y;rule p x = y; sign a 4; sign x 0; ?", 5, 23);
        Due.faultyText("sign a 4; sign a 0; ?", 2, 7);
        Due.faultyText("sign a 0;sign a 4; ?", 3, 14);
        Due.faultyText("sign a 0 ? sign a 4;", 1, 9);
        Due.faultyText(SIGNS + "rule p h(z,a(a),?);", 4, SIGNS.length() + 9);
        Due.faultyText(SIGNS + "rule p h(a(a),z,?);", 1, SIGNS.length() + 10);
        Due.faultyText(SIGNS + "rule p " + deep(12, "z") + ";", 4, SIGNS.length() + 29);
        TermShelf shelf = Due.shelf(SIGNS);
        Due.faultyQuery(shelf, "f(z,a) ?", 4, 2);
        Due.faultyQuery(shelf, "f(a,a) ? z", 1, 7);
    }

    /** "(of one place the least)". */
    private static void leastOfOnePlace() {
        String start = SIGNS + "rule p ";
        int n = start.length();
        String twelve = Due.repeated("g(", 12);
        Due.faultyText(start + twelve + "z", 2, n + 24);
        Due.faultyText(start + twelve + "abcdefg", 1, n + 24);
        Due.faultyText(start + twelve + "sign", 1, n + 24);
        Due.faultyText(start + twelve + ")", 1, n + 24);
        Due.faultyText(start + twelve + "?", 1, n + 24);
        Due.faultyText(start + twelve, 1, n + 24);
        Due.faultyText(start + "x=" + twelve + "y", 2, n + 26);
        Due.faultyText(start + "x=" + twelve + "z", 2, n + 26);
        Due.faultyText(start + "x=" + Due.repeated("g(", 11) + "y", 5, n + 24);
        Due.faultyText(start + "x=" + Due.repeated("g(", 11) + "z", 4, n + 24);
        TermShelf shelf = Due.shelf(SIGNS);
        Due.faultyQuery(shelf, twelve + "z", 2, 24);
        Due.faultyQuery(shelf, twelve + ",", 1, 24);
        Due.faultyQuery(shelf, twelve, 1, 24);
    }

    /** "A QUERY is one TERM .. (FAULTS likewise, 5 never; anything behind it is FAULT 1)". */
    private static void queriesAlone() {
        TermShelf shelf = Due.shelf(SIGNS + "rule p a;");
        for (String behind : new String[] {"a", "x", "z", "0", ";", "=", ",", "(", ")", "?", "sign", "abcdefg"}) {
            Due.faultyQuery(shelf, "a " + behind, 1, 2);
            Due.faultyQuery(shelf, "g(a) \n" + behind, 1, 6);
        }
        Due.goodQuery(shelf, "f(x,y)", 3);
        Due.goodQuery(shelf, " \nx\n ", 1);
        for (String first : new String[] {"0", ";", "=", ",", "(", ")", "?", "sign", "var", "rule", "abcdefg"}) {
            Due.faultyQuery(shelf, first, 1, 0);
        }
        Due.faultyQuery(shelf, "", 1, 0);
        Due.faultyQuery(shelf, "   ", 1, 3);
        Due.faultyQuery(shelf, "f(a,a", 1, 5);
    }

    /** "At first, and behind a new TEXT, there is none." */
    private static void noQuery() {
        TermShelf shelf = new TermShelf();
        Due.due("at first", shelf.asked(0), Due.MISSING);
        Due.told(shelf, SIGNS + "rule p f(x,y) = x;");
        noneIsAsked(shelf);
        Due.ask(shelf, "f(a,a)");
        Due.due("asked", shelf.asked(0), 2);
        Due.due("fits", shelf.fits(0, 0), 1);
        Due.told(shelf, SIGNS + "rule p f(x,y) = x;");
        noneIsAsked(shelf);
        shelf.draw(3);
        Due.due("drawn", shelf.count(7) > 0 ? 1 : 0, 1);
        Due.told(shelf, SIGNS + "rule p f(x,y) = x;");
        noneIsAsked(shelf);
    }

    private static void noneIsAsked(TermShelf shelf) {
        Due.due("none is asked", shelf.asked(0), Due.MISSING);
        Due.due("it has no places", shelf.count(7), 0);
        Due.due("nothing fits", shelf.fits(0, 0), Due.NONE);
        Due.due("nothing is found", shelf.found(0, 0), Due.NONE);
        Due.due("there is no finding", shelf.finding(0, 0), Due.NONE);
        Due.due("nothing is filled", shelf.filled(0, 0, 0), Due.NONE);
        Due.due("nothing meets", shelf.meeting(0, 0), Due.NONE);
        Due.due("nothing is specific", shelf.specific(0), Due.NONE);
        Due.due("there are no steps", shelf.steps(0), Due.NONE);
        Due.due("nothing is normal", shelf.normal(0), Due.NONE);
        Due.due("nothing is tried", shelf.tried(0, 0, 0), Due.MISSING);
    }

    /** "CODES: of a SIGN its number, of a VARIABLE 100 more than its own", "numbered as they come". */
    private static void codes() {
        TermShelf shelf = Due.shelf("var d;sign z 0;var c;sign y 1;sign x 2;var b;sign w 3;sign v 0;sign u 0;"
                + "sign t 0;sign s 0;var a;rule p w(d,x(c,b),x(a,s)) = y(a);rule q z;rule r t;");
        String names = "zyxwvuts";
        for (int sign = 0; sign < 8; sign++) {
            Due.due("sign " + sign, shelf.named(0, Due.letters(names.substring(sign, sign + 1))), sign);
        }
        String variables = "dcba";
        for (int variable = 0; variable < 4; variable++) {
            Due.due("variable " + variable,
                    shelf.named(0, Due.letters(variables.substring(variable, variable + 1))), 100 + variable);
        }
        int[] codes = {3, 100, 2, 101, 102, 2, 103, 7};
        for (int place = 0; place < codes.length; place++) {
            Due.due("code at " + place, shelf.code(0, place, false), codes[place]);
        }
        Due.due("code of the right term", shelf.code(0, 1, true), 103);
        Due.due("code of rule 1", shelf.code(1, 0, false), 0);
        Due.due("code of rule 2", shelf.code(2, 0, false), 6);
        Due.ask(shelf, "w(d,x(c,b),x(a,s))");
        for (int place = 0; place < codes.length; place++) {
            Due.due("asked at " + place, shelf.asked(place), codes[place]);
        }
    }
}
