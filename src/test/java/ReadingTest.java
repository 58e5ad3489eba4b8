import java.util.NoSuchElementException;

/** Promises 1 to 10: the tape, texts and queries read from it, their faults, what a text tells. */
public final class ReadingTest {
    private static final String SIGNS = "sign a 0;sign b 0;sign f 2;sign g 1;sign h 3;var x;var y;";
    private static final String RULES = "rule p f(x,y);rule q f(x,x);rule r f(a,y) = g(y);rule s g(x) = x;"
            + "rule t f(g(x),b);rule u a;";

    public static void main(String[] args) {
        newObject();
        tape();
        textTaken();
        textKept();
        tokens();
        lines();
        tooMuch();
        names();
        terms();
        rightTerms();
        queries();
        latestFault();
        named();
        rules();
        codes();
        Due.end("ReadingTest");
    }

    private static void newObject() {
        TermShelf shelf = new TermShelf();
        for (int what = 0; what <= 10; what++) {
            Due.due("new: count(" + what + ")", shelf.count(what), 0);
        }
        Due.due("new: fault(0)", shelf.fault(0), 0);
        Due.due("new: fault(1)", shelf.fault(1), Due.NONE);
        Due.due("new: text(1)", shelf.text(1), Due.MISSING);
        Due.due("new: text(0)", shelf.text(0), 0);
        Due.due("new: back()", shelf.back(), Due.NONE);
        Due.due("NONE", TermShelf.NONE, -1);
    }

    private static void tape() {
        TermShelf shelf = new TermShelf();
        for (int i = 1; i <= 35; i++) {
            Due.due("feed " + i, shelf.feed(538976288, 538976288, 538976288, 538976288, 538976288), 20 * i);
        }
        Due.due("feed 36", shelf.feed(0, 0, 0, 0, 0), Due.NONE);
        Due.due("text(701)", shelf.text(701), Due.MISSING);
        Due.due("text(700)", shelf.text(700), 0);
        Due.due("feed again", shelf.feed(-1, 0, 0, 0, 0), 20);
        Due.due("text of byte 255", shelf.text(1), Due.NONE);
        Due.due("its fault", shelf.fault(0), 1);
        Due.due("its place", shelf.fault(1), 0);
        Due.due("feed", shelf.feed(0x76617220, 0x783b7661, 0x7220793b, 0, 0x01020304), 20);
        Due.due("text of var x;var y;", shelf.text(12), 2);
        Due.due("its variables", shelf.count(1), 2);
    }

    private static void textTaken() {
        TermShelf shelf = Due.shelf(SIGNS + RULES, "f(a,a)");
        shelf.take(0);
        shelf.keep();
        Due.due("text anew", Due.told(shelf, "sign c 0;rule one c;\nrule two c ;"), 3);
        Due.due("all are in", shelf.count(3), 2);
        Due.due("no query", shelf.count(7), 0);
        Due.due("no image", shelf.back(), Due.NONE);
        Due.due("nothing to undo", shelf.undo(), Due.NONE);
        Due.due("no old sign", shelf.named(0, Due.letters("a")), Due.NONE);
        Due.due("no old right term", shelf.rule(1, 1), 0);
    }

    private static void textKept() {
        TermShelf shelf = Due.shelf(SIGNS + RULES, "f(a,a)");
        shelf.keep();
        shelf.take(0);
        Due.due("faulty text", Due.told(shelf, "sign c 0;rule one d;"), Due.NONE);
        Due.due("its fault", shelf.fault(0), 4);
        Due.due("tape is empty then", shelf.feed(0, 0, 0, 0, 0), 20);
        Due.due("too long a text", shelf.text(21), Due.MISSING);
        Due.due("text below 0", shelf.text(-1), Due.MISSING);
        Due.due("too long a query", shelf.query(21), Due.MISSING);
        Due.due("query below 0", shelf.query(-1), Due.MISSING);
        Due.due("the latest fault stays", shelf.fault(0), 4);
        Due.due("tape stays then", shelf.feed(0, 0, 0, 0, 0), 40);
        Due.due("rules stay", shelf.count(2), 6);
        Due.due("what is in stays", shelf.count(3), 5);
        Due.due("query stays", shelf.count(7), 3);
        Due.due("faulty query", shelf.query(1), Due.NONE);
        Due.due("query stays", shelf.asked(0), 2);
        Due.due("undoing stays", shelf.undo(), 0);
        Due.due("image stays", shelf.back(), 6);
        Due.due("good text again", Due.told(shelf, ""), 0);
        Due.due("no fault", shelf.fault(0), 0);
        Due.due("no place", shelf.fault(1), Due.NONE);
    }

    private static void tokens() {
        Due.faultyText("Sign a 0;", 1, 0);
        Due.faultyText("sign a 0; ?", 1, 10);
        Due.faultyText("\tsign a 0;", 1, 0);
        Due.faultyText("sign abcdefg 0;", 1, 5);
        Due.faultyText("signsign a 0;", 1, 0);
        Due.faultyText("sign a0x;", 1, 7);
        Due.faultyText("sign a -1;", 1, 7);
        Due.faultyText("sign a 0; " + (char) 228, 1, 10);
        Due.due("blanks everywhere", Due.told(new TermShelf(),
                " \n sign\na\n3 ; var x;rule r a ( x\n, x , x )= x ;\n"), 3);
        Due.due("no blanks", Due.told(new TermShelf(), "sign a1;var x;rule r a(x)=x;"), 3);
        Due.due("six letters", Due.told(new TermShelf(), "sign abcdef 0;"), 1);
        Due.due("zeros ahead", Due.told(new TermShelf(), "sign a 0000000000000000000003;"), 1);
    }

    private static void lines() {
        Due.faultyText("sign", 1, 4);
        Due.faultyText("sign  \n", 1, 7);
        Due.faultyText("sign a", 1, 6);
        Due.faultyText("sign a 0", 1, 8);
        Due.faultyText("sign a;", 1, 6);
        Due.faultyText("sign 0;", 1, 5);
        Due.faultyText("sign a 0 0;", 1, 9);
        Due.faultyText("sign a 0;;", 1, 9);
        Due.faultyText("a;", 1, 0);
        Due.faultyText(";", 1, 0);
        Due.faultyText("3", 1, 0);
        Due.faultyText("sign sign 0;", 1, 5);
        Due.faultyText("var rule;", 1, 4);
        Due.faultyText("rule var x;", 1, 5);
        Due.faultyText("var x", 1, 5);
        Due.faultyText("var x 0;", 1, 6);
        Due.faultyText("var x;rule r", 1, 12);
        Due.faultyText("var x;rule r ;", 1, 13);
        Due.faultyText("var x;rule r x", 1, 14);
        Due.faultyText("var x;rule r x x;", 1, 15);
        Due.faultyText("var x;rule r rule;", 1, 13);
        Due.faultyText("var x;rule = x;", 1, 11);
    }

    private static void tooMuch() {
        Due.faultyText("sign a 4;", 2, 7);
        Due.faultyText("sign a 99999999999999999999;", 2, 7);
        Due.faultyText("sign a 4294967296;", 2, 7);
        String eight = "sign a 0;sign b 0;sign c 0;sign d 0;sign e 0;sign f 0;sign g 0;sign h 0;";
        Due.due("eight signs", Due.told(new TermShelf(), eight), 8);
        Due.faultyText(eight + "sign a", 2, 72);
        Due.faultyText(eight + "  sign", 2, 74);
        String four = "var a;var b;var c;var d;";
        Due.due("four variables", Due.told(new TermShelf(), four), 4);
        Due.faultyText(four + "var var", 2, 24);
        StringBuilder sixteen = new StringBuilder("var x;");
        for (char name = 'a'; name < 'a' + 16; name++) {
            sixteen.append("rule ").append(name).append(" x;");
        }
        Due.due("sixteen rules", Due.told(new TermShelf(), sixteen.toString()), 17);
        Due.faultyText(sixteen + "rule z x;", 2, sixteen.length());
        String start = "sign g 1;sign h 3;var x;rule r ";
        String eleven = Due.repeated("g(", 11);
        Due.due("twelve places", Due.told(new TermShelf(), start + eleven + "x" + Due.repeated(")", 11) + ";"), 4);
        Due.faultyText(start + eleven + "g(x", 2, start.length() + 24);
        Due.faultyText(start + eleven + "g(y", 2, start.length() + 24);
        Due.faultyText(start + eleven + "g(sign", 1, start.length() + 24);
        Due.faultyText(start + eleven + "g(abcdefg", 1, start.length() + 24);
        Due.faultyText(start + eleven + "g(", 1, start.length() + 24);
        Due.faultyText(start + "h(h(x,x,x),h(x,x,x),h(x,x,x))", 2, start.length() + 26);
        Due.faultyText(start + "x = h(h(x,x,x),h(x,x,x),h(x,x,y))", 2, start.length() + 30);
        Due.faultyText(start + eleven + "x" + Due.repeated(")", 11) + " = " + eleven + "g(x",
                2, start.length() + 37 + 24);
    }

    private static void names() {
        Due.faultyText("sign a 0;sign a 1;", 3, 14);
        Due.faultyText("sign a 0;var a;", 3, 13);
        Due.faultyText("var a;sign a", 3, 11);
        Due.faultyText("var a;var a", 3, 10);
        Due.faultyText("var a;rule a a;rule a", 3, 20);
        Due.due("a rule as a sign", Due.told(new TermShelf(), "sign a 0;rule a a;rule b a;var b;"), 4);
        Due.due("longer names", Due.told(new TermShelf(), "sign a 0;sign aa 0;sign aaa 0;var aaaa;var ab;"), 5);
    }

    private static void terms() {
        int n = SIGNS.length() + 7;
        String start = SIGNS + "rule p ";
        Due.faultyText(start + "z;", 4, n);
        Due.faultyText(start + "f(a,z", 4, n + 4);
        Due.faultyText(start + "p;", 4, n);
        Due.faultyText("rule p a;sign a 0;", 4, 7);
        Due.faultyText(start + "a(b);", 1, n + 1);
        Due.faultyText(start + "a();", 1, n + 1);
        Due.faultyText(start + "x(b);", 1, n + 1);
        Due.faultyText(start + "f;", 1, n + 1);
        Due.faultyText(start + "f a;", 1, n + 2);
        Due.faultyText(start + "f();", 1, n + 2);
        Due.faultyText(start + "f(a);", 1, n + 3);
        Due.faultyText(start + "f(a,);", 1, n + 4);
        Due.faultyText(start + "f(a,b,a);", 1, n + 5);
        Due.faultyText(start + "f(a b);", 1, n + 4);
        Due.faultyText(start + "g(a,b);", 1, n + 3);
        Due.faultyText(start + "g(a;", 1, n + 3);
        Due.faultyText(start + "g(a = b", 1, n + 4);
        Due.faultyText(start + "g(a));", 1, n + 4);
        Due.faultyText(start + "h(f(a,b),g(a),b;", 1, n + 15);
        Due.faultyText(start + "(a);", 1, n);
        Due.faultyText(start + "a,b;", 1, n + 1);
        Due.faultyText(start + "a 0;", 1, n + 2);
    }

    private static void rightTerms() {
        int n = SIGNS.length() + 7;
        String start = SIGNS + "rule p ";
        Due.faultyText(start + "f(x,a) = y;", 5, n + 9);
        Due.faultyText(start + "a = f(b,x);", 5, n + 8);
        Due.faultyText(start + "a = z;", 4, n + 4);
        Due.faultyText(start + "a = ;", 1, n + 4);
        Due.faultyText(start + "a = b = b;", 1, n + 6);
        Due.faultyText(start + "a == b;", 1, n + 3);
        Due.due("right terms", Due.told(new TermShelf(), start + "f(x,y) = f(y,f(x,y));rule q x = a;"), 9);
    }

    private static void queries() {
        TermShelf shelf = Due.shelf(SIGNS + RULES);
        Due.due("no query yet", shelf.asked(0), Due.MISSING);
        Due.due("query", Due.ask(shelf, "h(f(x,y),x,b)"), 6);
        int[] codes = {4, 2, 100, 101, 100, 1};
        for (int i = 0; i < codes.length; i++) {
            Due.due("asked(" + i + ")", shelf.asked(i), codes[i]);
        }
        Due.due("asked(6)", shelf.asked(6), Due.MISSING);
        Due.due("asked(MAX)", shelf.asked(Integer.MAX_VALUE), Due.MISSING);
        Due.due("asked(-1)", shelf.asked(-1), Due.NONE);
        Due.due("asked(MIN)", shelf.asked(Integer.MIN_VALUE), Due.NONE);
        Due.faultyQuery(shelf, "", 1, 0);
        Due.faultyQuery(shelf, "  ", 1, 2);
        Due.faultyQuery(shelf, "z", 4, 0);
        Due.faultyQuery(shelf, "p", 4, 0);
        Due.faultyQuery(shelf, "a;", 1, 1);
        Due.faultyQuery(shelf, "a a", 1, 2);
        Due.faultyQuery(shelf, "a = a", 1, 2);
        Due.faultyQuery(shelf, "g(a) ?", 1, 5);
        Due.faultyQuery(shelf, "f(a,", 1, 4);
        Due.faultyQuery(shelf, "sign", 1, 0);
        Due.faultyQuery(shelf, Due.repeated("g(", 12) + "a", 2, 24);
        Due.due("the query stays", shelf.count(7), 6);
        Due.due("query with blanks behind", Due.ask(shelf, " g ( x ) \n "), 2);
        Due.due("its fault", shelf.fault(0), 0);
        Due.due("its place", shelf.fault(1), Due.NONE);
        Due.due("twelve places", Due.ask(shelf, Due.repeated("g(", 11) + "a" + Due.repeated(")", 11)), 12);
    }

    private static void latestFault() {
        TermShelf shelf = new TermShelf();
        Due.told(shelf, "sign a 4;");
        Due.due("fault(0)", shelf.fault(0), 2);
        Due.due("fault(1)", shelf.fault(1), 7);
        shelf.text(1000);
        Due.due("fault(0) behind -2", shelf.fault(0), 2);
        Due.ask(shelf, "a");
        Due.due("fault(0) of a query", shelf.fault(0), 4);
        Due.due("fault(1) of a query", shelf.fault(1), 0);
        Due.due("fault(2)", shelf.fault(2), Due.NONE);
        Due.due("fault(-1)", shelf.fault(-1), Due.NONE);
    }

    private static void named() {
        TermShelf shelf = Due.shelf("sign ab 0;sign abcdef 1;sign z 2;var zz;var x;rule x x;rule zzzzzz ab;");
        Due.due("named ab", shelf.named(0, Due.letters("ab")), 0);
        Due.due("named abcdef", shelf.named(0, Due.letters("abcdef")), 1);
        Due.due("named z", shelf.named(0, 26 << 25), 2);
        Due.due("named zz", shelf.named(0, (26 << 25) + (26 << 20)), 100);
        Due.due("named x", shelf.named(0, 24 << 25), 101);
        Due.due("rule x", shelf.named(1, 24 << 25), 0);
        Due.due("rule zzzzzz", shelf.named(1, Due.letters("zzzzzz")), 1);
        Due.due("rule ab", shelf.named(1, Due.letters("ab")), Due.NONE);
        Due.due("no name", shelf.named(0, 0), Due.NONE);
        Due.due("letters at the low end", shelf.named(0, 26), Due.NONE);
        Due.due("more bits", shelf.named(0, 24 << 25 | 1 << 30), Due.NONE);
        Due.due("below 0", shelf.named(0, -1), Due.NONE);
        Due.due("named 2", shelf.named(2, 24 << 25), Due.NONE);
        Due.due("named -1", shelf.named(-1, 24 << 25), Due.NONE);
    }

    private static void rules() {
        TermShelf shelf = Due.shelf(SIGNS + RULES + "rule v h(x,y,x) = f(f(x,x),y);");
        int[][] want = {{3, 0, 2, 1, 0}, {3, 0, 1, 1, 1}, {3, 2, 1, 1, 0}, {2, 1, 1, 1, 0},
            {4, 0, 1, 1, 0}, {1, 0, 0, 1, 0}, {4, 5, 2, 1, 1}};
        for (int rule = 0; rule < want.length; rule++) {
            for (int what = 0; what < 5; what++) {
                Due.due("rule(" + rule + ", " + what + ")", shelf.rule(rule, what), want[rule][what]);
            }
        }
        TermShelf variable = Due.shelf("var x;rule p x = x;");
        int[] ofVariable = {1, 1, 1, 1, 0};
        for (int what = 0; what < 5; what++) {
            Due.due("rule(0, " + what + ") of a variable", variable.rule(0, what), ofVariable[what]);
        }
        shelf.take(3);
        Due.due("rule(3, 3), taken", shelf.rule(3, 3), 0);
        Due.due("rule(3, 0), taken", shelf.rule(3, 0), 2);
        Due.due("rule(7, 0)", thrown(shelf, 7, 0), 1);
        Due.due("rule(-1, 0)", thrown(shelf, -1, 0), 1);
        Due.due("rule(7, 5)", thrown(shelf, 7, 5), 1);
        Due.due("rule(MAX, -1)", thrown(shelf, Integer.MAX_VALUE, -1), 1);
        Due.due("rule(0, 5)", thrown(shelf, 0, 5), 2);
        Due.due("rule(0, -1)", thrown(shelf, 0, -1), 2);
        Due.due("rule(6, 4)", thrown(shelf, 6, 4), 0);
    }

    private static int thrown(TermShelf shelf, int rule, int what) {
        try {
            shelf.rule(rule, what);
            return 0;
        } catch (IndexOutOfBoundsException e) {
            return 1;
        } catch (NoSuchElementException e) {
            return 2;
        }
    }

    private static void codes() {
        TermShelf shelf = Due.shelf(SIGNS + "rule p h(f(x,g(a)),y,b) = g(y);rule q a;");
        int[] codes = {4, 2, 100, 3, 0, 101, 1};
        int[] ends = {7, 5, 3, 5, 5, 6, 7};
        for (int i = 0; i < codes.length; i++) {
            Due.due("code(0, " + i + ", false)", shelf.code(0, i, false), codes[i]);
            Due.due("skip(0, " + i + ")", shelf.skip(0, i), ends[i]);
        }
        Due.due("code(0, 7, false)", shelf.code(0, 7, false), Due.MISSING);
        Due.due("code(0, 0, true)", shelf.code(0, 0, true), 3);
        Due.due("code(0, 1, true)", shelf.code(0, 1, true), 101);
        Due.due("code(0, 2, true)", shelf.code(0, 2, true), Due.MISSING);
        Due.due("code(1, 0, true)", shelf.code(1, 0, true), Due.MISSING);
        Due.due("code(1, -1, true)", shelf.code(1, -1, true), Due.NONE);
        Due.due("code(2, 0, false)", shelf.code(2, 0, false), Due.NONE);
        Due.due("code(-1, 0, false)", shelf.code(-1, 0, false), Due.NONE);
        Due.due("code(2, 50, true)", shelf.code(2, 50, true), Due.NONE);
        Due.due("code(0, MAX, false)", shelf.code(0, Integer.MAX_VALUE, false), Due.MISSING);
        Due.due("skip(1, 0)", shelf.skip(1, 0), 1);
        Due.due("skip(1, 1)", shelf.skip(1, 1), Due.MISSING);
        Due.due("skip(0, 7)", shelf.skip(0, 7), Due.MISSING);
        Due.due("skip(0, MAX)", shelf.skip(0, Integer.MAX_VALUE), Due.MISSING);
        Due.due("skip(0, -1)", shelf.skip(0, -1), Due.NONE);
        Due.due("skip(2, 0)", shelf.skip(2, 0), Due.NONE);
        Due.due("skip(-1, 0)", shelf.skip(-1, 0), Due.NONE);
    }
}
