import java.util.NoSuchElementException;

/** Edges of "Terms" 3 (ABOVE to STEPS) and promises 6 to 9, 18 to 25, 28 to 31. */
public final class RulesEdgesTest {
    private static final String SIGNS = "sign a 0;sign b 0;sign f 2;sign g 1;sign h 3;var x;var y;";
    private static final String TEXT = SIGNS + "rule p f(x,y);rule q f(x,x) = x;rule r f(a,g(b)) = f(a,a);";
    private static final int[] OFF = {-2, -16, 16, 17, 31, 32, 33, 64, 100, Integer.MIN_VALUE, Integer.MAX_VALUE};

    public static void main(String[] args) {
        namedWhat();
        namedLetters();
        ruleThrows();
        ruleWhat();
        ruleRepeats();
        codePlaces();
        skipPlaces();
        noSuchRule();
        sixteenRules();
        aboveOthers();
        aboveWhetherIn();
        shadowedByLessNumbers();
        topsButVariants();
        joinedNumbers();
        joinedVariables();
        overlapsOfSigns();
        overlapsApart();
        sharedCodes();
        criticalPlaces();
        criticalNumbers();
        criticalOfSixty();
        criticalsOfRulesIn();
        depths();
        besideWhat();
        stepsWhat();
        stepsOfTwenty();
        stepsOfSixty();
        stepsOfRulesIn();
        stepsAtVariables();
        normalNumbers();
        Due.end("RulesEdgesTest");
    }

    private static String deep(int places, String leaf) {
        return Due.repeated("g(", places - 1) + leaf + Due.repeated(")", places - 1);
    }

    private static String sixteen(String term) {
        StringBuilder text = new StringBuilder(SIGNS);
        for (char name = 'a'; name <= 'p'; name++) {
            text.append("rule ").append(name).append(' ').append(term).append(';');
        }
        return text.toString();
    }

    /** named: "(what 0)", "(1)", "NONE: there is none such". */
    private static void namedWhat() {
        TermShelf shelf = Due.shelf("sign a 0;var x;rule p a;rule x x;");
        String[] names = {"a", "x", "p", "q"};
        int[][] want = {{0, 100, Due.NONE, Due.NONE}, {Due.NONE, 1, 0, Due.NONE}};
        for (int i = 0; i < names.length; i++) {
            int letters = Due.letters(names[i]);
            Due.due("named(-1) " + names[i], shelf.named(-1, letters), Due.NONE);
            Due.due("named(0) " + names[i], shelf.named(0, letters), want[0][i]);
            Due.due("named(1) " + names[i], shelf.named(1, letters), want[1][i]);
            Due.due("named(2) " + names[i], shelf.named(2, letters), Due.NONE);
            Due.due("named(MAX) " + names[i], shelf.named(Integer.MAX_VALUE, letters), Due.NONE);
            Due.due("named(MIN) " + names[i], shelf.named(Integer.MIN_VALUE, letters), Due.NONE);
            Due.due("named(0) " + names[i] + ", new", new TermShelf().named(0, letters), Due.NONE);
            Due.due("named(1) " + names[i] + ", new", new TermShelf().named(1, letters), Due.NONE);
        }
        Due.due("named(0, 0), new", new TermShelf().named(0, 0), Due.NONE);
        Due.due("named(1, 0), new", new TermShelf().named(1, 0), Due.NONE);
    }

    /** "5 bits each (a is 1; the first one highest of six, 0 behind the last one)". */
    private static void namedLetters() {
        TermShelf shelf = Due.shelf("sign a 0;sign z 0;sign zzzzzz 0;var aaaaaa;var az;rule azazaz a;");
        Due.due("a", shelf.named(0, 1 << 25), 0);
        Due.due("z", shelf.named(0, 26 << 25), 1);
        int allZ = 0;
        int allA = 0;
        for (int i = 0; i < 6; i++) {
            allZ = allZ << 5 | 26;
            allA = allA << 5 | 1;
        }
        Due.due("zzzzzz", shelf.named(0, allZ), 2);
        Due.due("aaaaaa", shelf.named(0, allA), 100);
        Due.due("az", shelf.named(0, 1 << 25 | 26 << 20), 101);
        Due.due("za", shelf.named(0, 26 << 25 | 1 << 20), Due.NONE);
        Due.due("azazaz", shelf.named(1, Due.letters("azazaz")), 0);
        Due.due("azazay", shelf.named(1, Due.letters("azazaz") - 1), Due.NONE);
        Due.due("azaza and 27", shelf.named(1, Due.letters("azazaz") + 1), Due.NONE);
        Due.due("aa", shelf.named(0, 1 << 25 | 1 << 20), Due.NONE);
        Due.due("aaaaa", shelf.named(0, allA - 1), Due.NONE);
        Due.due("0 ahead of a", shelf.named(0, 1 << 20), Due.NONE);
        Due.due("a lowest of six", shelf.named(0, 1), Due.NONE);
        Due.due("a with 0 between", shelf.named(0, 1 << 25 | 1), Due.NONE);
        Due.due("a with bit 30", shelf.named(0, 1 << 25 | 1 << 30), Due.NONE);
        Due.due("a with bit 31", shelf.named(0, 1 << 25 | 1 << 31), Due.NONE);
        Due.due("nothing", shelf.named(0, 0), Due.NONE);
        Due.due("-1", shelf.named(0, -1), Due.NONE);
        Due.due("MIN", shelf.named(0, Integer.MIN_VALUE), Due.NONE);
        Due.due("MAX", shelf.named(0, Integer.MAX_VALUE), Due.NONE);
        for (String word : new String[] {"sign", "var", "rule"}) {
            Due.due(word, shelf.named(0, Due.letters(word)), Due.NONE);
            Due.due(word, shelf.named(1, Due.letters(word)), Due.NONE);
        }
    }

    /** 1: IndexOutOfBoundsException, 2: NoSuchElementException, 0: an answer. */
    private static int thrown(TermShelf shelf, int rule, int what) {
        try {
            shelf.rule(rule, what);
            return 0;
        } catch (IndexOutOfBoundsException e) {
            return e.getClass() == IndexOutOfBoundsException.class ? 1 : 3;
        } catch (NoSuchElementException e) {
            return e.getClass() == NoSuchElementException.class ? 2 : 4;
        }
    }

    /** rule: "IndexOutOfBoundsException: no such RULE. NoSuchElementException: no such what". */
    private static void ruleThrows() {
        TermShelf shelf = Due.shelf(TEXT);
        for (int what = -1; what <= 5; what++) {
            int due = what < 0 || what > 4 ? 2 : 0;
            for (int rule = 0; rule < 3; rule++) {
                Due.due("rule(" + rule + ", " + what + ") throws", thrown(shelf, rule, what), due);
            }
            Due.due("rule(-1, " + what + ") throws", thrown(shelf, -1, what), 1);
            Due.due("rule(3, " + what + ") throws", thrown(shelf, 3, what), 1);
            Due.due("rule(0, " + what + ") of none throws", thrown(new TermShelf(), 0, what), 1);
        }
        for (int off : OFF) {
            Due.due("rule(" + off + ", 0) throws", thrown(shelf, off, 0), 1);
            Due.due("rule(0, " + off + ") throws", thrown(shelf, 0, off), 2);
            Due.due("rule(" + off + ", " + off + ") throws", thrown(shelf, off, off), 1);
        }
        TermShelf all = Due.shelf(sixteen("x"));
        Due.due("rule(15, 0) of 16 throws", thrown(all, 15, 0), 0);
        Due.due("rule(16, 0) of 16 throws", thrown(all, 16, 0), 1);
        shelf.take(1);
        Due.due("rule(1, 0), out, throws", thrown(shelf, 1, 0), 0);
        Due.due("rule(1, 5), out, throws", thrown(shelf, 1, 5), 2);
    }

    private static void told(String terms, int... want) {
        TermShelf shelf = Due.shelf(SIGNS + "var z;var w;rule p " + terms + ";");
        for (int what = 0; what <= 4; what++) {
            Due.due("rule(0, " + what + ") of " + terms, shelf.rule(0, what), want[what]);
        }
    }

    /** rule: "what 0 how many PLACES, 1 of its RIGHT TERM (0: none), 2 how many VARIABLES". */
    private static void ruleWhat() {
        told("a", 1, 0, 0, 1, 0);
        told("a = b", 1, 1, 0, 1, 0);
        told("w", 1, 0, 1, 1, 0);
        told("w = w", 1, 1, 1, 1, 0);
        told("f(w,z) = w", 3, 1, 2, 1, 0);
        told("h(w,z,y)", 4, 0, 3, 1, 0);
        told("f(h(w,z,y),x)", 6, 0, 4, 1, 0);
        told(deep(12, "x") + " = " + deep(12, "x"), 12, 12, 1, 1, 0);
        told("h(h(w,w,w),h(w,w,w),f(w,w)) = w", 12, 1, 1, 1, 1);
        told("h(h(w,x,y),h(z,w,x),f(y,z)) = a", 12, 1, 4, 1, 1);
    }

    /** rule: "3 whether IN, 4 whether some VARIABLE comes again", in its TERM. */
    private static void ruleRepeats() {
        told("f(x,x)", 3, 0, 1, 1, 1);
        told("f(x,y)", 3, 0, 2, 1, 0);
        told("h(x,y,x)", 4, 0, 2, 1, 1);
        told("h(y,x,x)", 4, 0, 2, 1, 1);
        told("h(a,a,a)", 4, 0, 0, 1, 0);
        told("h(a,x,a)", 4, 0, 1, 1, 0);
        told("x = f(x,x)", 1, 3, 1, 1, 0);
        told("f(x,f(y,f(z,w)))", 7, 0, 4, 1, 0);
        told("f(x,f(y,f(z,f(w,x))))", 9, 0, 4, 1, 1);
        TermShelf shelf = Due.shelf(TEXT);
        shelf.take(1);
        int[] in = {1, 0, 1};
        for (int rule = 0; rule < 3; rule++) {
            Due.due("rule(" + rule + ", 3), q out", shelf.rule(rule, 3), in[rule]);
        }
        Due.due("rule(1, 4), out", shelf.rule(1, 4), 1);
        shelf.put(1);
        Due.due("rule(1, 3), in again", shelf.rule(1, 3), 1);
    }

    /** code: "-2: there is no such PLACE; NONE: no such RULE, the place is below 0". */
    private static void codePlaces() {
        TermShelf shelf = Due.shelf(TEXT);
        int[] left = {Due.NONE, 2, 0, 3, 1, Due.MISSING, Due.MISSING};
        int[] right = {Due.NONE, 2, 0, 0, Due.MISSING, Due.MISSING, Due.MISSING};
        int[] none = {Due.NONE, Due.MISSING, Due.MISSING, Due.MISSING, Due.MISSING, Due.MISSING, Due.MISSING};
        for (int place = -1; place <= 5; place++) {
            Due.due("code(2, " + place + ", false)", shelf.code(2, place, false), left[place + 1]);
            Due.due("code(2, " + place + ", true)", shelf.code(2, place, true), right[place + 1]);
            Due.due("code(0, " + place + ", true)", shelf.code(0, place, true), none[place + 1]);
            Due.due("code(3, " + place + ", false)", shelf.code(3, place, false), Due.NONE);
            Due.due("code(-1, " + place + ", true)", shelf.code(-1, place, true), Due.NONE);
        }
        Due.due("code(2, 11, false)", shelf.code(2, 11, false), Due.MISSING);
        Due.due("code(2, 12, true)", shelf.code(2, 12, true), Due.MISSING);
        Due.due("code(2, MAX, false)", shelf.code(2, Integer.MAX_VALUE, false), Due.MISSING);
        Due.due("code(2, MIN, false)", shelf.code(2, Integer.MIN_VALUE, false), Due.NONE);
        Due.due("code(2, MIN, true)", shelf.code(2, Integer.MIN_VALUE, true), Due.NONE);
        shelf.take(2);
        Due.due("code(2, 3, false), out", shelf.code(2, 3, false), 1);
        Due.due("code(2, 2, true), out", shelf.code(2, 2, true), 0);
    }

    /** skip: "-2: there is no such PLACE; NONE: no such RULE, the place is below 0". */
    private static void skipPlaces() {
        TermShelf shelf = Due.shelf(SIGNS + "rule p h(f(a,b),g(x),y) = " + deep(12, "x") + ";rule q "
                + deep(12, "x") + ";rule r a;");
        int[] want = {Due.NONE, 7, 4, 3, 4, 6, 6, 7, Due.MISSING, Due.MISSING};
        for (int place = -1; place <= 8; place++) {
            Due.due("skip(0, " + place + ")", shelf.skip(0, place), want[place + 1]);
        }
        for (int place = 0; place < 12; place++) {
            Due.due("skip(1, " + place + ")", shelf.skip(1, place), 12);
        }
        Due.due("skip(1, 12)", shelf.skip(1, 12), Due.MISSING);
        Due.due("skip(2, 0)", shelf.skip(2, 0), 1);
        Due.due("skip(2, 1)", shelf.skip(2, 1), Due.MISSING);
        Due.due("skip(2, MAX)", shelf.skip(2, Integer.MAX_VALUE), Due.MISSING);
        Due.due("skip(2, MIN)", shelf.skip(2, Integer.MIN_VALUE), Due.NONE);
        Due.due("skip(3, 0)", shelf.skip(3, 0), Due.NONE);
        Due.due("skip(3, -1)", shelf.skip(3, -1), Due.NONE);
        shelf.take(0);
        Due.due("skip(0, 1), out", shelf.skip(0, 1), 4);
    }

    /** "NONE: no such RULE", "no such RULES", of each call that has such numbers. */
    private static void noSuchRule() {
        TermShelf shelf = Due.shelf(TEXT);
        int[] none = {-1, 3, 4, -2, -16, 16, 17, 31, 32, 33, 64, 100, Integer.MIN_VALUE, Integer.MAX_VALUE};
        for (int rule : none) {
            Due.due("code of rule " + rule, shelf.code(rule, 0, false), Due.NONE);
            Due.due("skip of rule " + rule, shelf.skip(rule, 0), Due.NONE);
            Due.due("above of rule " + rule, shelf.above(rule), Due.NONE);
            Due.due("depth of rule " + rule, shelf.depth(rule), Due.NONE);
            Due.due("joined of rule " + rule, shelf.joined(rule, 0, 0), Due.NONE);
            Due.due("joined by rule " + rule, shelf.joined(0, rule, 0), Due.NONE);
            Due.due("overlaps of rule " + rule, shelf.overlaps(rule, 0), Due.NONE);
            Due.due("overlaps by rule " + rule, shelf.overlaps(0, rule), Due.NONE);
            Due.due("shared of rule " + rule, shelf.shared(rule, 0), Due.NONE);
            Due.due("shared by rule " + rule, shelf.shared(0, rule), Due.NONE);
            Due.due("critical of rule " + rule, shelf.critical(rule, 0, 0, 0), Due.NONE);
            Due.due("critical by rule " + rule, shelf.critical(0, rule, 0, 0), Due.NONE);
            Due.due("beside of rule " + rule, shelf.beside(rule, 0, 0), Due.NONE);
            Due.due("beside by rule " + rule, shelf.beside(0, rule, 1), Due.NONE);
        }
        TermShelf empty = new TermShelf();
        Due.due("above(0) of none", empty.above(0), Due.NONE);
        Due.due("depth(0) of none", empty.depth(0), Due.NONE);
        Due.due("joined(0, 0, 0) of none", empty.joined(0, 0, 0), Due.NONE);
        Due.due("overlaps(0, 0) of none", empty.overlaps(0, 0), Due.NONE);
        Due.due("shared(0, 0) of none", empty.shared(0, 0), Due.NONE);
        Due.due("critical(0, 0, 0, 0) of none", empty.critical(0, 0, 0, 0), Due.NONE);
        Due.due("beside(0, 0, 0) of none", empty.beside(0, 0, 0), Due.NONE);
    }

    private static void sixteenRules() {
        TermShelf shelf = Due.shelf(sixteen("f(x,a)"));
        Due.due("above(15)", shelf.above(15), 0x7fff);
        Due.due("above(0)", shelf.above(0), 0xfffe);
        Due.due("above(16)", shelf.above(16), Due.NONE);
        Due.due("depth(15)", shelf.depth(15), 2);
        Due.due("depth(16)", shelf.depth(16), Due.NONE);
        Due.due("joined(15, 0, 2)", shelf.joined(15, 0, 2), 0);
        Due.due("joined(0, 16, 2)", shelf.joined(0, 16, 2), Due.NONE);
        Due.due("overlaps(0, 15)", shelf.overlaps(0, 15), 1);
        Due.due("overlaps(15, 15)", shelf.overlaps(15, 15), 0);
        Due.due("overlaps(16, 16)", shelf.overlaps(16, 16), Due.NONE);
        Due.due("shared(15, 0)", shelf.shared(15, 0), 3);
        Due.due("shared(16, 0)", shelf.shared(16, 0), Due.NONE);
        Due.due("critical(15, 0, 0, 0)", shelf.critical(15, 0, 0, 0), 2);
        Due.due("critical(16, 0, 0, 0)", shelf.critical(16, 0, 0, 0), Due.NONE);
        Due.due("critical(0, 16, 0, 0)", shelf.critical(0, 16, 0, 0), Due.NONE);
        Due.due("beside(15, 0, 0)", shelf.beside(15, 0, 0), 1);
        Due.due("beside(0, 16, 0)", shelf.beside(0, 16, 0), Due.NONE);
        Due.due("shadowed()", shelf.shadowed(), 0xfffe);
        Due.due("tops()", shelf.tops(), 0xffff);
        Due.due("criticals()", shelf.criticals(), 16 * 15);
    }

    /** "ABOVE of a RULE: those .., others, that it is ABOVE" "(a VARIANT does)". */
    private static void aboveOthers() {
        TermShelf shelf = Due.shelf(SIGNS + "rule p x;rule q f(x,y);rule r f(y,x);rule s f(x,x);rule t f(a,a);rule u f(a,b);"
                + "rule v f(x,g(x));");
        int[] want = {126, 124, 122, 16, 0, 0, 0};
        for (int rule = 0; rule < want.length; rule++) {
            Due.due("above(" + rule + ")", shelf.above(rule), want[rule]);
        }
        Due.due("above(0) of one alone", Due.shelf(SIGNS + "rule p x;").above(0), 0);
    }

    /** "(bits, IN or not)". */
    private static void aboveWhetherIn() {
        TermShelf shelf = Due.shelf(SIGNS + "rule p f(x,y);rule q f(x,x);rule r f(a,a);");
        for (int rule = 0; rule < 3; rule++) {
            shelf.take(rule);
            Due.due("above(0)", shelf.above(0), 6);
            Due.due("above(1)", shelf.above(1), 4);
            Due.due("above(2)", shelf.above(2), 0);
        }
    }

    /** "SHADOWED: a RULE, IN, that a RULE IN of a less number is ABOVE". */
    private static void shadowedByLessNumbers() {
        TermShelf shelf = Due.shelf(SIGNS + "rule p f(a,b);rule q f(x,y);rule r f(a,b);rule s f(y,x);");
        Due.due("shadowed()", shelf.shadowed(), 12);
        shelf.take(1);
        Due.due("shadowed(), q out", shelf.shadowed(), 4);
        shelf.take(0);
        Due.due("shadowed(), p and q out", shelf.shadowed(), 0);
        shelf.put(1);
        Due.due("shadowed(), p out", shelf.shadowed(), 12);
        shelf.take(2);
        Due.due("shadowed(), p and r out", shelf.shadowed(), 8);
        shelf.take(3);
        Due.due("shadowed(), q alone", shelf.shadowed(), 0);
        shelf.take(1);
        Due.due("shadowed(), none in", shelf.shadowed(), 0);
        Due.due("shadowed(), one rule", Due.shelf(SIGNS + "rule p x;").shadowed(), 0);
        Due.due("shadowed(), above from behind", Due.shelf(SIGNS + "rule p a;rule q x;").shadowed(), 0);
        Due.due("shadowed(), above from ahead", Due.shelf(SIGNS + "rule p x;rule q a;").shadowed(), 2);
    }

    /** "that no other one that is IN is ABOVE, but VARIANTS of it". */
    private static void topsButVariants() {
        TermShelf shelf = Due.shelf(SIGNS + "rule p f(a,b);rule q f(x,y);rule r f(a,b);rule s f(y,x);rule t g(x);");
        Due.due("tops()", shelf.tops(), 2 + 8 + 16);
        shelf.take(1);
        Due.due("tops(), q out", shelf.tops(), 8 + 16);
        shelf.take(3);
        Due.due("tops(), q and s out", shelf.tops(), 1 + 4 + 16);
        shelf.take(0);
        Due.due("tops(), p out too", shelf.tops(), 4 + 16);
        shelf.take(2);
        Due.due("tops(), t alone", shelf.tops(), 16);
        shelf.take(4);
        Due.due("tops(), none in", shelf.tops(), 0);
    }

    /** joined: "-2: there are no so many; NONE: .. k is below 0". */
    private static void joinedNumbers() {
        TermShelf shelf = Due.shelf(TEXT);
        int[] want = {Due.NONE, 2, 100, 101, Due.MISSING, Due.MISSING};
        for (int k = -1; k <= 4; k++) {
            Due.due("joined(0, 2, " + k + ")", shelf.joined(0, 2, k), want[k + 1]);
        }
        Due.due("joined(0, 2, MAX)", shelf.joined(0, 2, Integer.MAX_VALUE), Due.MISSING);
        Due.due("joined(0, 2, MIN)", shelf.joined(0, 2, Integer.MIN_VALUE), Due.NONE);
        int[] same = {2, 0, 3, 1, Due.MISSING};
        for (int k = 0; k < same.length; k++) {
            Due.due("joined(2, 2, " + k + ")", shelf.joined(2, 2, k), same[k]);
        }
        shelf.take(0);
        shelf.take(2);
        Due.due("joined(0, 2, 2), both out", shelf.joined(0, 2, 2), 101);
        TermShelf deepest = Due.shelf(SIGNS + "rule p " + deep(12, "x") + ";rule q " + deep(12, "a") + ";rule r "
                + deep(11, "a") + ";");
        Due.due("joined(0, 1, 11)", deepest.joined(0, 1, 11), 100);
        Due.due("joined(0, 1, 12)", deepest.joined(0, 1, 12), Due.MISSING);
        Due.due("joined(1, 2, 10)", deepest.joined(1, 2, 10), 100);
        Due.due("joined(1, 2, 11)", deepest.joined(1, 2, 11), Due.MISSING);
    }

    private static void join(String one, String other, int... codes) {
        TermShelf shelf = Due.shelf("sign a 0;sign b 0;sign c 0;sign d 0;sign g 1;sign f 2;sign h 3;var x;var y;rule p "
                + one + ";rule q " + other + ";");
        for (int k = 0; k < codes.length; k++) {
            Due.due("joined(0, 1, " + k + ") of " + one + ", " + other, shelf.joined(0, 1, k), codes[k]);
            Due.due("joined(1, 0, " + k + ") of " + one + ", " + other, shelf.joined(1, 0, k), codes[k]);
        }
        Due.due("joined, behind, of " + one + ", " + other, shelf.joined(0, 1, codes.length), Due.MISSING);
        Due.due("joined, behind, of " + other + ", " + one, shelf.joined(1, 0, codes.length), Due.MISSING);
    }

    /** "(where their SIGNS are unlike, or one is a VARIABLE, a VARIABLE: the same one just for the same two TERMS)". */
    private static void joinedVariables() {
        join("x", "x", 100);
        join("x", "y", 100);
        join("a", "x", 100);
        join("f(a,b)", "f(b,a)", 5, 100, 101);
        join("f(a,a)", "f(b,b)", 5, 100, 100);
        join("f(a,a)", "f(b,c)", 5, 100, 101);
        join("f(x,x)", "f(y,y)", 5, 100, 100);
        join("f(x,y)", "f(y,x)", 5, 100, 101);
        join("f(x,y)", "f(y,y)", 5, 100, 101);
        join("f(g(a),g(a))", "f(b,g(b))", 5, 100, 4, 101);
        join("f(g(a),g(b))", "f(x,x)", 5, 100, 101);
        join("f(g(a),g(a))", "f(x,x)", 5, 100, 100);
        join("h(g(a),a,a)", "h(g(b),b,c)", 6, 4, 100, 100, 101);
        join("f(g(a),a)", "g(a)", 100);
        join("h(a,b,b)", "h(b,a,a)", 6, 100, 101, 101);
        join("h(a,f(b,x),f(x,b))", "h(b,f(x,a),f(a,x))", 6, 100, 5, 101, 102, 5, 102, 101);
        join("h(h(a,a,a),h(a,b,b),f(b,c))", "h(h(b,c,d),h(x,a,c),f(d,a))",
                6, 6, 100, 101, 102, 6, 103, 104, 105, 5, 106, 107);
        join("h(h(a,a,a),h(a,b,b),f(b,a))", "h(h(b,c,d),h(x,a,c),f(d,b))",
                6, 6, 100, 101, 102, 6, 103, 104, 105, 5, 106, 100);
    }

    private static void overlap(String one, String other, int bits, int back) {
        TermShelf shelf = Due.shelf(SIGNS + "rule p " + one + ";rule q " + other + ";");
        Due.due("overlaps of " + one + " by " + other, shelf.overlaps(0, 1), bits);
        Due.due("overlaps of " + other + " by " + one, shelf.overlaps(1, 0), back);
    }

    /** "PLACES of the first one's TERM, no VARIABLES". */
    private static void overlapsOfSigns() {
        overlap("x", "y", 0, 0);
        overlap("x", "a", 0, 1);
        overlap("a", "a", 1, 1);
        overlap("a", "b", 0, 0);
        overlap("g(x)", "y", 1, 0);
        overlap("f(x,g(y))", "g(a)", 4, 0);
        overlap("f(g(x),g(g(b)))", "g(x)", 2 + 8 + 16, 0);
        overlap("f(g(x),g(g(b)))", "g(g(x))", 2 + 8, 0);
        overlap(deep(12, "a"), "a", 1 << 11, 0);
        overlap(deep(12, "a"), "x", 4095, 0);
        overlap(deep(12, "x"), "y", 2047, 0);
        overlap(deep(12, "x"), deep(12, "a"), 2047, 1);
    }

    /** "(of itself not PLACE 0)", "VARIABLES apart". */
    private static void overlapsApart() {
        TermShelf shelf = Due.shelf(SIGNS + "rule p g(x);rule q g(y);rule r g(g(x));rule s f(x,f(y,x));rule t f(x,g(x));"
                + "rule u a;rule v x;");
        Due.due("overlaps(0, 0)", shelf.overlaps(0, 0), 0);
        Due.due("overlaps(0, 1), not itself", shelf.overlaps(0, 1), 1);
        Due.due("overlaps(2, 2)", shelf.overlaps(2, 2), 2);
        Due.due("overlaps(2, 0), variables apart", shelf.overlaps(2, 0), 3);
        Due.due("overlaps(3, 3), variables apart", shelf.overlaps(3, 3), 4);
        Due.due("overlaps(4, 4)", shelf.overlaps(4, 4), 0);
        Due.due("overlaps(4, 0), variables apart", shelf.overlaps(4, 0), 4);
        Due.due("overlaps(5, 5)", shelf.overlaps(5, 5), 0);
        Due.due("overlaps(6, 6)", shelf.overlaps(6, 6), 0);
        shelf.take(2);
        shelf.take(0);
        Due.due("overlaps(2, 0), both out", shelf.overlaps(2, 0), 3);
    }

    private static void share(String one, String other, int codes) {
        TermShelf shelf = Due.shelf(SIGNS + "rule p " + one + ";rule q " + other + ";");
        Due.due("shared of " + one + ", " + other, shelf.shared(0, 1), codes);
        Due.due("shared of " + other + ", " + one, shelf.shared(1, 0), codes);
    }

    /** "how many CODES of their PATHS are alike from the first one on till one isn't". */
    private static void sharedCodes() {
        share("a", "b", 0);
        share("a", "x", 0);
        share("x", "y", 1);
        share("f(x,y)", "f(y,y)", 3);
        share("f(a,x)", "f(b,x)", 1);
        share("f(a,x)", "f(a,b)", 2);
        share("h(a,b,a)", "h(b,b,a)", 1);
        share(deep(12, "a"), deep(12, "b"), 11);
        share(deep(12, "x"), deep(12, "y"), 12);
        share(deep(11, "a"), deep(12, "a"), 10);
        TermShelf shelf = Due.shelf(TEXT);
        Due.due("shared with itself", shelf.shared(2, 2), 4);
        shelf.take(2);
        Due.due("shared with itself, out", shelf.shared(2, 2), 4);
    }

    /** critical: "-2: .. it doesn't OVERLAP there", "NONE: .. no such PLACE". */
    private static void criticalPlaces() {
        TermShelf shelf = Due.shelf(SIGNS + "rule p f(x,g(g(a)));rule q g(y);rule r a;rule s " + deep(12, "a") + ";");
        int[] byQ = {Due.NONE, Due.MISSING, Due.MISSING, 2, 2, Due.MISSING, Due.NONE, Due.NONE};
        for (int place = -1; place <= 6; place++) {
            Due.due("critical(0, 1, " + place + ", 0)", shelf.critical(0, 1, place, 0), byQ[place + 1]);
        }
        Due.due("critical(0, 2, 4, 0)", shelf.critical(0, 2, 4, 0), 2);
        Due.due("critical(0, 2, 5, 0)", shelf.critical(0, 2, 5, 0), Due.NONE);
        Due.due("critical(3, 2, 11, 11)", shelf.critical(3, 2, 11, 11), 0);
        Due.due("critical(3, 2, 12, 0)", shelf.critical(3, 2, 12, 0), Due.NONE);
        Due.due("critical(3, 2, 10, 0)", shelf.critical(3, 2, 10, 0), Due.MISSING);
        Due.due("critical of itself at 0", shelf.critical(1, 1, 0, 0), Due.MISSING);
        Due.due("critical of itself at a variable", shelf.critical(1, 1, 1, 0), Due.MISSING);
        Due.due("critical of itself beyond", shelf.critical(1, 1, 2, 0), Due.NONE);
        for (int off : new int[] {16, 31, 32, 33, Integer.MAX_VALUE, -2, Integer.MIN_VALUE}) {
            Due.due("critical(0, 1, " + off + ", 0)", shelf.critical(0, 1, off, 0), Due.NONE);
        }
        shelf.take(0);
        shelf.take(1);
        Due.due("critical(0, 1, 2, 0), both out", shelf.critical(0, 1, 2, 0), 2);
    }

    /** critical: "-2: there are no so many", "NONE: .. k is below 0". */
    private static void criticalNumbers() {
        TermShelf shelf = Due.shelf(SIGNS + "rule p f(x,g(x));rule q g(g(y));rule r f(f(x,y),f(y,x));rule s f(x,y);");
        int[] want = {Due.NONE, 2, 3, 100, 3, 3, 100, Due.MISSING, Due.MISSING};
        for (int k = -1; k <= 7; k++) {
            Due.due("critical(0, 1, 2, " + k + ")", shelf.critical(0, 1, 2, k), want[k + 1]);
        }
        Due.due("k MAX", shelf.critical(0, 1, 2, Integer.MAX_VALUE), Due.MISSING);
        Due.due("k MIN", shelf.critical(0, 1, 2, Integer.MIN_VALUE), Due.NONE);
        Due.due("k -1 where it doesn't overlap", shelf.critical(0, 1, 0, -1), Due.NONE);
        Due.due("k 0 where it doesn't overlap", shelf.critical(0, 1, 0, 0), Due.MISSING);
        int[] apart = {2, 2, 100, 101, 2, 101, 100, Due.MISSING};
        for (int k = 0; k < apart.length; k++) {
            Due.due("critical(2, 3, 1, " + k + ")", shelf.critical(2, 3, 1, k), apart[k]);
        }
        int[] itself = {2, 2, 2, 100, 101, 2, 101, 100, 2, 2, 101, 100, 2, 100, 101, Due.MISSING};
        for (int k = 0; k < itself.length; k++) {
            Due.due("critical(2, 2, 1, " + k + ")", shelf.critical(2, 2, 1, k), itself[k]);
        }
    }

    /** critical: "60 PLACES at most; -2: .. more than 60": with 8 places for x, 59, 60 and 61 places. */
    private static void criticalOfSixty() {
        String[] rules = {"h(x,h(x,x,x),h(x,x,x))", "h(x,h(g(x),x,x),h(x,x,x))", "h(x,h(g(x),g(x),x),h(x,x,x))"};
        for (int i = 0; i < 3; i++) {
            int places = 59 + i;
            TermShelf shelf = Due.shelf(SIGNS + "var z;rule p " + rules[i] + ";rule q h(" + deep(8, "y") + ",x,z);");
            Due.due(places + " places overlap", shelf.overlaps(0, 1) & 1, 1);
            Due.due("the first of " + places, shelf.critical(0, 1, 0, 0), places <= 60 ? 4 : Due.MISSING);
            Due.due("the 59th of " + places, shelf.critical(0, 1, 0, 58),
                    places == 59 ? 100 : places == 60 ? 3 : Due.MISSING);
            Due.due("the 60th of " + places, shelf.critical(0, 1, 0, 59), places == 60 ? 100 : Due.MISSING);
            Due.due("the 61st of " + places, shelf.critical(0, 1, 0, 60), Due.MISSING);
        }
    }

    /** "of all RULES that are IN by all that are IN", themselves too. */
    private static void criticalsOfRulesIn() {
        TermShelf shelf = Due.shelf(SIGNS + "rule p g(g(x));rule q g(a);rule r a;");
        Due.due("criticals()", shelf.criticals(), 1 + 1 + 1);
        shelf.take(0);
        Due.due("criticals(), p out", shelf.criticals(), 1);
        shelf.take(2);
        Due.due("criticals(), q alone", shelf.criticals(), 0);
        shelf.take(1);
        Due.due("criticals(), none in", shelf.criticals(), 0);
        shelf.put(0);
        Due.due("criticals(), p alone", shelf.criticals(), 1);
        Due.due("criticals(), no rules", Due.shelf(SIGNS).criticals(), 0);
    }

    /** depth: "1 of one PLACE, else 1 more than the deepest of its arguments". */
    private static void depths() {
        String[] terms = {"x", "a", "g(x)", "f(a,g(a))", "f(g(a),a)", "h(a,g(g(a)),f(a,a))", "h(a,a,a)"};
        int[] want = {1, 1, 2, 3, 3, 4, 2};
        for (int i = 0; i < terms.length; i++) {
            Due.due("depth of " + terms[i], Due.shelf(SIGNS + "rule p " + terms[i] + " = a;").depth(0), want[i]);
        }
        for (int places = 1; places <= 12; places++) {
            TermShelf shelf = Due.shelf(SIGNS + "rule p " + deep(places, "b") + ";");
            Due.due("depth of " + places, shelf.depth(0), places);
            shelf.take(0);
            Due.due("depth of " + places + ", out", shelf.depth(0), places);
        }
        Due.due("depth of a right term is none", Due.shelf(SIGNS + "rule p a = " + deep(12, "b") + ";").depth(0), 1);
    }

    /** beside: "NONE: no such ones". */
    private static void besideWhat() {
        TermShelf shelf = Due.shelf(SIGNS + "rule p f(x,y);rule q f(y,x);rule r f(x,x);rule s f(x,g(x));");
        int[] variants = {Due.NONE, 1, 1, Due.NONE, Due.NONE};
        for (int what = -1; what <= 3; what++) {
            Due.due("beside(0, 1, " + what + ")", shelf.beside(0, 1, what), variants[what + 1]);
        }
        for (int off : OFF) {
            Due.due("beside(0, 1, " + off + ")", shelf.beside(0, 1, off), Due.NONE);
        }
        int[][] rows = {{0, 2, 0, 1}, {2, 3, 0, 0}, {0, 3, 0, 1}, {2, 2, 1, 1}, {3, 3, 1, 1}};
        for (int[] row : rows) {
            Due.due("beside(" + row[0] + ", " + row[1] + ", 0)", shelf.beside(row[0], row[1], 0), row[2]);
            Due.due("beside(" + row[1] + ", " + row[0] + ", 0)", shelf.beside(row[1], row[0], 0), row[2]);
            Due.due("beside(" + row[0] + ", " + row[1] + ", 1)", shelf.beside(row[0], row[1], 1), row[3]);
            Due.due("beside(" + row[1] + ", " + row[0] + ", 1)", shelf.beside(row[1], row[0], 1), row[3]);
        }
        shelf.take(0);
        shelf.take(1);
        Due.due("beside(0, 1, 0), both out", shelf.beside(0, 1, 0), 1);
        Due.due("beside(0, 1, 1), both out", shelf.beside(0, 1, 1), 1);
    }

    /** steps: "(-2: none). NONE: no such what, no QUERY". */
    private static void stepsWhat() {
        TermShelf shelf = Due.shelf(SIGNS + "rule p b;rule q a = b;");
        for (int what = -1; what <= 3; what++) {
            Due.due("steps(" + what + "), no query", shelf.steps(what), Due.NONE);
        }
        Due.ask(shelf, "g(a)");
        int[] want = {Due.NONE, 1, 2, 1, Due.NONE, Due.NONE};
        for (int what = -1; what <= 4; what++) {
            Due.due("steps(" + what + ")", shelf.steps(what), want[what + 1]);
        }
        for (int off : OFF) {
            Due.due("steps(" + off + ")", shelf.steps(off), Due.NONE);
        }
        Due.ask(shelf, "g(b)");
        int[] none = {0, 2, Due.MISSING};
        for (int what = 0; what <= 2; what++) {
            Due.due("steps(" + what + ") of none", shelf.steps(what), none[what]);
        }
    }

    private static void comes(TermShelf shelf, String query, int done, int first, int... codes) {
        Due.ask(shelf, query);
        Due.due("steps(0) of " + query, shelf.steps(0), done);
        Due.due("steps(1) of " + query, shelf.steps(1), codes.length);
        Due.due("steps(2) of " + query, shelf.steps(2), first);
        for (int k = 0; k < codes.length; k++) {
            Due.due("normal(" + k + ") of " + query, shelf.normal(k), codes[k]);
        }
        Due.due("normal, behind, of " + query, shelf.normal(codes.length), Due.MISSING);
    }

    /** "20 times at most": each g takes two steps, each k one, b one at the very end. */
    private static void stepsOfTwenty() {
        TermShelf shelf = Due.shelf("sign c 0;sign b 0;sign g 1;sign k 1;var x;rule p g(x) = k(x);rule q k(x) = x;"
                + "rule r b = c;");
        comes(shelf, "c", 0, Due.MISSING, 0);
        comes(shelf, "k(c)", 1, 1, 0);
        comes(shelf, deep(10, "k(c)"), 19, 0, 0);
        comes(shelf, deep(10, "b"), 19, 0, 0);
        comes(shelf, deep(11, "c"), 20, 0, 0);
        comes(shelf, deep(10, "k(b)"), 20, 0, 0);
        comes(shelf, deep(11, "b"), 20, 0, 1);
        comes(shelf, deep(11, "k(c)"), 20, 0, 3, 0);
        comes(shelf, "k(" + deep(11, "c") + ")", 20, 1, 3, 0);
        comes(shelf, deep(12, "c"), 20, 0, 2, 0);
        TermShelf endless = Due.shelf(SIGNS + "rule p a = b;rule q b = a;");
        comes(endless, "a", 20, 0, 0);
        comes(endless, "b", 20, 1, 1);
        comes(endless, "f(a,b)", 20, 0, 2, 0, 1);
    }

    /** "if it would have more than 60 PLACES, that step isn't done and it ends". */
    private static void stepsOfSixty() {
        String signs = SIGNS + "sign k 1;sign e 2;";
        TermShelf shelf = Due.shelf(signs + "rule p k(x) = h(x,x,h(x,x,h(x,x,a)));rule q b = a;");
        grows(shelf, "e(k(" + deep(9, "a") + "),a)", 1, 60, 0);
        grows(shelf, "g(k(" + deep(9, "a") + "))", 1, 59, 0);
        grows(shelf, "g(g(k(" + deep(9, "a") + ")))", 1, 60, 0);
        grows(shelf, "k(" + deep(10, "a") + ")", 0, 11, Due.MISSING);
        grows(shelf, "k(" + deep(11, "b") + ")", 0, 12, Due.MISSING);
        TermShelf more = Due.shelf(signs + "rule p k(x) = h(x,x,h(x,x,h(x,x,g(a))));rule q b = a;");
        grows(more, "e(k(" + deep(9, "a") + "),a)", 0, 12, Due.MISSING);
        grows(more, "e(k(" + deep(9, "a") + "),b)", 0, 12, Due.MISSING);
        grows(more, "e(b,k(" + deep(9, "a") + "))", 1, 12, 1);
        grows(more, "g(k(" + deep(9, "a") + "))", 1, 60, 0);
        grows(more, "g(g(k(" + deep(9, "a") + ")))", 0, 12, Due.MISSING);
        TermShelf grown = Due.shelf(SIGNS + "rule p a = f(g(g(b)),a);");
        grows(grown, "a", 14, 57, 0);
        TermShelf exactly = Due.shelf(SIGNS + "rule p a = f(g(b),a);");
        grows(exactly, "a", 19, 58, 0);
        grows(exactly, "g(a)", 19, 59, 0);
        grows(exactly, "g(g(a))", 19, 60, 0);
        grows(exactly, "g(g(g(a)))", 18, 58, 0);
        grows(exactly, "g(g(f(b,a)))", 18, 59, 0);
        grows(exactly, "g(g(f(a,b)))", 18, 59, 0);
    }

    private static void grows(TermShelf shelf, String query, int done, int places, int first) {
        Due.ask(shelf, query);
        Due.due("steps(0) of " + query, shelf.steps(0), done);
        Due.due("steps(1) of " + query, shelf.steps(1), places);
        Due.due("steps(2) of " + query, shelf.steps(2), first);
        Due.due("normal at the end of " + query, shelf.normal(places - 1) >= 0 ? 1 : 0, 1);
        Due.due("normal behind " + query, shelf.normal(places), Due.MISSING);
    }

    /** "a RULE, IN, with a RIGHT TERM", "of these RULES the first by numbers", "the first" PLACE. */
    private static void stepsOfRulesIn() {
        TermShelf shelf = Due.shelf(SIGNS + "rule p g(x);rule q g(a) = b;rule r g(x) = a;rule s a = b;");
        comes(shelf, "g(a)", 1, 1, 1);
        comes(shelf, "g(b)", 2, 2, 1);
        shelf.take(1);
        comes(shelf, "g(a)", 2, 2, 1);
        shelf.take(2);
        comes(shelf, "g(a)", 1, 3, 3, 1);
        shelf.take(3);
        comes(shelf, "g(a)", 0, Due.MISSING, 3, 0);
        shelf.put(3);
        comes(shelf, "f(a,a)", 2, 3, 2, 1, 1);
        shelf.put(2);
        comes(shelf, "f(a,g(y))", 3, 3, 2, 1, 1);
    }

    /** "(those of VARIABLES, too)". */
    private static void stepsAtVariables() {
        TermShelf shelf = Due.shelf(SIGNS + "rule p a = b;rule q x = x;");
        comes(shelf, "y", 20, 1, 101);
        comes(shelf, "g(a)", 20, 1, 3, 0);
        shelf.take(1);
        comes(shelf, "y", 0, Due.MISSING, 101);
        comes(shelf, "f(y,a)", 1, 0, 2, 101, 1);
        TermShelf behind = Due.shelf(SIGNS + "rule p g(x) = x;", "y");
        comes(behind, "y", 0, Due.MISSING, 101);
        comes(behind, "f(x,g(y))", 1, 0, 2, 100, 101);
    }

    /** normal: "-2: there are no so many; NONE: k is below 0, no QUERY". */
    private static void normalNumbers() {
        TermShelf shelf = Due.shelf(SIGNS + "rule p a = f(b,g(b));");
        for (int k = -1; k <= 4; k++) {
            Due.due("normal(" + k + "), no query", shelf.normal(k), Due.NONE);
        }
        Due.ask(shelf, "g(a)");
        int[] want = {Due.NONE, 3, 2, 1, 3, 1, Due.MISSING, Due.MISSING};
        for (int k = -1; k <= 6; k++) {
            Due.due("normal(" + k + ")", shelf.normal(k), want[k + 1]);
        }
        Due.due("normal(59)", shelf.normal(59), Due.MISSING);
        Due.due("normal(60)", shelf.normal(60), Due.MISSING);
        Due.due("normal(MAX)", shelf.normal(Integer.MAX_VALUE), Due.MISSING);
        Due.due("normal(MIN)", shelf.normal(Integer.MIN_VALUE), Due.NONE);
        Due.due("the query stays", shelf.count(7), 2);
        Due.due("the query stays", shelf.asked(1), 0);
        shelf.take(0);
        Due.due("normal(1), p out", shelf.normal(1), 0);
        Due.due("normal(2), p out", shelf.normal(2), Due.MISSING);
        Due.ask(shelf, deep(12, "y"));
        Due.due("normal(11) of twelve", shelf.normal(11), 101);
        Due.due("normal(12) of twelve", shelf.normal(12), Due.MISSING);
    }
}
