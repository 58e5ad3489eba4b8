import java.util.Arrays;

/** Edges that promises 1 to 5 name: a new object, the tape, what text and query take of it, the latest fault. */
public final class TapeEdgesTest {
    private static final int BLANKS = 0x20202020;
    private static final int BAD = '?';
    private static final String TEXT = "sign a 0;sign f 2;var x;rule p f(x,x) = x;rule q a;";

    public static void main(String[] args) {
        newObjectHasNoLines();
        newObjectHasAnEmptyTape();
        twentyBytesEachAtItsPlace();
        highestByteFirst();
        everyByteAlone();
        bytesOfNames();
        bytesOfNumbers();
        bytesComeBehind();
        tapeOfSevenHundred();
        noneComeBeyond();
        wholeTapeIsRead();
        textOfAsManyAsThereAre();
        queryOfAsManyAsThereAre();
        refusedTextKeepsTheTape();
        takenTextEmptiesTheTape();
        textOfNothing();
        newTextStartsAnew();
        earlierTextsAreForgotten();
        faultyTextKeepsAll();
        faultyQueryKeepsAll();
        queryTakesThePlaceOfOne();
        faultAtFirst();
        faultOfTheLatest();
        faultOfOtherWhat();
        fiveHundredAndTwelveCalls();
        Due.end("TapeEdgesTest");
    }

    /** "A TEXT without LINES". */
    private static void newObjectHasNoLines() {
        TermShelf shelf = new TermShelf();
        for (int what = 0; what <= 10; what++) {
            Due.due("new: count(" + what + ")", shelf.count(what), 0);
        }
        Due.due("new: shadowed()", shelf.shadowed(), 0);
        Due.due("new: tops()", shelf.tops(), 0);
        Due.due("new: criticals()", shelf.criticals(), 0);
        Due.due("new: order(0)", shelf.order(0), Due.MISSING);
        Due.due("new: branch(1, 0)", shelf.branch(1, 0), Due.MISSING);
        Due.due("new: width(0)", shelf.width(0), 0);
        Due.due("new: asked(0)", shelf.asked(0), Due.MISSING);
        Due.due("new: draw(0)", shelf.draw(0), Due.MISSING);
        Due.due("new: tried(0, 0, 0)", shelf.tried(0, 0, 0), Due.MISSING);
        Due.due("new: undo()", shelf.undo(), Due.NONE);
        Due.due("new: back()", shelf.back(), Due.NONE);
        Due.due("new: keep()", shelf.keep(), 0);
        Due.due("new: back() behind keep()", shelf.back(), 0);
    }

    /** "an empty TAPE". */
    private static void newObjectHasAnEmptyTape() {
        Due.due("new: text(1)", new TermShelf().text(1), Due.MISSING);
        Due.due("new: query(1)", new TermShelf().query(1), Due.MISSING);
        Due.due("new: text(0)", new TermShelf().text(0), 0);
        Due.due("new: query(0)", new TermShelf().query(0), Due.NONE);
        Due.due("new: feed", new TermShelf().feed(0, 0, 0, 0, 0), 20);
    }

    private static int feedRow(TermShelf shelf, int[] bytes) {
        int[] numbers = new int[5];
        for (int i = 0; i < 20; i++) {
            numbers[i / 4] = numbers[i / 4] << 8 | bytes[i];
        }
        return shelf.feed(numbers[0], numbers[1], numbers[2], numbers[3], numbers[4]);
    }

    private static int[] blanksBut(int place, int sign) {
        int[] bytes = new int[20];
        Arrays.fill(bytes, 32);
        bytes[place] = sign;
        return bytes;
    }

    /** "Twenty bytes come behind the TAPE, four of each number". */
    private static void twentyBytesEachAtItsPlace() {
        for (int place = 0; place < 20; place++) {
            TermShelf shelf = new TermShelf();
            Due.due("feed", feedRow(shelf, blanksBut(place, BAD)), 20);
            Due.due("text up to the bad byte " + place, shelf.text(place), 0);
            feedRow(shelf, blanksBut(place, BAD));
            Due.due("text with the bad byte " + place, shelf.text(place + 1), Due.NONE);
            Due.faultIs(shelf, "bad byte " + place, 1, place);
        }
        TermShelf shelf = new TermShelf();
        Due.due("a text of just twenty", Due.told(shelf, "sign abcdef 3;var x;"), 2);
        Due.due("its sign", shelf.named(0, Due.letters("abcdef")), 0);
        Due.due("its variable", shelf.named(0, Due.letters("x")), 100);
    }

    /** "the highest first": the numbers' signs do not matter. */
    private static void highestByteFirst() {
        int[] numbers = {0xff202020, 0x80202020, 0x7f202020, 0x20ff2020, 0x2020ff20, 0x202020ff, -1, 0,
            Integer.MIN_VALUE, Integer.MAX_VALUE};
        int[] places = {0, 0, 0, 1, 2, 3, 0, 0, 0, 0};
        for (int i = 0; i < numbers.length; i++) {
            for (int which = 0; which < 5; which++) {
                int[] row = {BLANKS, BLANKS, BLANKS, BLANKS, BLANKS};
                row[which] = numbers[i];
                TermShelf shelf = new TermShelf();
                Due.due("feed", shelf.feed(row[0], row[1], row[2], row[3], row[4]), 20);
                Due.due("text", shelf.text(20), Due.NONE);
                Due.faultIs(shelf, "number " + numbers[i] + " at " + which, 1, 4 * which + places[i]);
            }
        }
    }

    /** "Blanks 10, 32": any other byte alone is a FAULT, those beside them too. */
    private static void everyByteAlone() {
        for (int sign = 0; sign < 256; sign++) {
            TermShelf shelf = new TermShelf();
            feedRow(shelf, blanksBut(0, sign));
            boolean blank = sign == 10 || sign == 32;
            Due.due("text of byte " + sign, shelf.text(1), blank ? 0 : Due.NONE);
            Due.faultIs(shelf, "byte " + sign, blank ? 0 : 1, blank ? Due.NONE : 0);
        }
    }

    /** "Words: small letters in a row". */
    private static void bytesOfNames() {
        for (int sign = 0; sign < 256; sign++) {
            String text = "sign " + (char) sign + " 0;";
            if (sign >= 'a' && sign <= 'z') {
                Due.goodText(text, 1);
            } else {
                boolean isBlank = sign == 10 || sign == 32;
                Due.faultyText(text, 1, isBlank ? 7 : 5);
            }
        }
    }

    /** "N: digits". */
    private static void bytesOfNumbers() {
        for (int sign = 0; sign < 256; sign++) {
            String text = "sign a " + (char) sign + ";";
            if (sign >= '0' && sign <= '3') {
                Due.goodText(text, 1);
            } else if (sign >= '4' && sign <= '9') {
                Due.faultyText(text, 2, 7);
            } else {
                boolean isBlank = sign == 10 || sign == 32;
                Due.faultyText(text, 1, isBlank ? 8 : 7);
            }
        }
    }

    /** "come behind the TAPE": what came ahead stays ahead, a token may go on across. */
    private static void bytesComeBehind() {
        TermShelf shelf = new TermShelf();
        Due.due("first twenty", feedRow(shelf, bytesOf("                 var")), 20);
        Due.due("second twenty", feedRow(shelf, bytesOf(" x;var yyy         z")), 40);
        Due.due("third twenty", feedRow(shelf, bytesOf("zz;                 ")), 60);
        Due.due("text", shelf.text(60), Due.NONE);
        Due.faultIs(shelf, "across", 1, 39);
        feedRow(shelf, bytesOf("              sign a"));
        feedRow(shelf, bytesOf("bcdef 00000000000000"));
        feedRow(shelf, bytesOf("3;                  "));
        Due.due("a name and a number across", shelf.text(60), 1);
        Due.due("the name", shelf.named(0, Due.letters("abcdef")), 0);
    }

    private static int[] bytesOf(String text) {
        int[] bytes = new int[20];
        for (int i = 0; i < 20; i++) {
            bytes[i] = text.charAt(i);
        }
        return bytes;
    }

    private static TermShelf blankTape(int rows) {
        TermShelf shelf = new TermShelf();
        for (int i = 1; i <= rows; i++) {
            Due.due("feed " + i, shelf.feed(BLANKS, BLANKS, BLANKS, BLANKS, BLANKS), 20 * i);
        }
        return shelf;
    }

    /** "how many it has; NONE .. if it would have more than 700": 680, 700 and beyond. */
    private static void tapeOfSevenHundred() {
        TermShelf shelf = blankTape(34);
        Due.due("680 are there", shelf.text(681), Due.MISSING);
        Due.due("feed up to 700", shelf.feed(BLANKS, BLANKS, BLANKS, BLANKS, BLANKS), 700);
        Due.due("feed beyond", shelf.feed(BLANKS, BLANKS, BLANKS, BLANKS, BLANKS), Due.NONE);
        Due.due("feed beyond again", shelf.feed(BLANKS, BLANKS, BLANKS, BLANKS, BLANKS), Due.NONE);
        Due.due("text(701)", shelf.text(701), Due.MISSING);
        Due.due("query(701)", shelf.query(701), Due.MISSING);
        Due.due("feed is still beyond", shelf.feed(BLANKS, BLANKS, BLANKS, BLANKS, BLANKS), Due.NONE);
        Due.due("text(700)", shelf.text(700), 0);
        Due.due("feed on the empty tape", shelf.feed(BLANKS, BLANKS, BLANKS, BLANKS, BLANKS), 20);
        Due.due("query(680) of 680", blankTape(34).query(680), Due.NONE);
        Due.due("text(680) of 680", blankTape(34).text(680), 0);
        Due.due("text(679) of 680", blankTape(34).text(679), 0);
    }

    /** "and none come": the bytes that are there stay as they were. */
    private static void noneComeBeyond() {
        TermShelf shelf = blankTape(34);
        feedRow(shelf, bytesOf("              var x;"));
        Due.due("feed beyond", feedRow(shelf, blanksBut(0, BAD)), Due.NONE);
        Due.due("feed beyond", shelf.feed(-1, -1, -1, -1, -1), Due.NONE);
        Due.due("text(700)", shelf.text(700), 1);
        Due.due("its variable", shelf.named(0, Due.letters("x")), 100);
        Due.due("feed", shelf.feed(BLANKS, BLANKS, BLANKS, BLANKS, BLANKS), 20);
        Due.due("nothing came at the start", shelf.text(20), 0);
    }

    /** All 700 bytes may be the text, and its length may be where more must come. */
    private static void wholeTapeIsRead() {
        for (int n = 695; n <= 700; n++) {
            TermShelf shelf = blankTape(34);
            feedRow(shelf, bytesOf("              var x;"));
            boolean whole = n == 700;
            Due.due("text(" + n + ")", shelf.text(n), whole ? 1 : Due.NONE);
            Due.faultIs(shelf, "first " + n, whole ? 0 : 1, whole ? Due.NONE : n <= 696 ? 694 : n);
        }
        TermShelf shelf = Due.shelf("var x;");
        Due.due("query of 700", Due.ask(shelf, Due.repeated(" ", 699) + "x"), 1);
        Due.faultyQuery(shelf, Due.repeated(" ", 700), 1, 700);
        Due.faultyQuery(shelf, Due.repeated("a", 700), 1, 0);
        Due.faultyQuery(shelf, Due.repeated("9", 700), 1, 0);
        Due.faultyText(Due.repeated(";", 700), 1, 0);
        Due.faultyText("sign a " + Due.repeated("9", 693), 2, 7);
        Due.faultyText("sign a " + Due.repeated("0", 693), 1, 700);
        Due.goodText("sign a " + Due.repeated("0", 691) + "3;", 1);
    }

    /** "-2 ..: there are not so many, n is below 0". */
    private static void textOfAsManyAsThereAre() {
        int[] refused = {21, 22, 40, 700, 701, Integer.MAX_VALUE, -1, -2, -20, Integer.MIN_VALUE};
        TermShelf shelf = blankTape(1);
        for (int n : refused) {
            Due.due("text(" + n + ") of 20", shelf.text(n), Due.MISSING);
        }
        Due.due("text(20) of 20", shelf.text(20), 0);
        Due.due("text(19) of 20", blankTape(1).text(19), 0);
        Due.due("text(1) of 20", blankTape(1).text(1), 0);
        Due.due("text(0) of 20", blankTape(1).text(0), 0);
        Due.due("text(1) of none", shelf.text(1), Due.MISSING);
        Due.due("text(-1) of none", shelf.text(-1), Due.MISSING);
        Due.due("text(0) of none", shelf.text(0), 0);
    }

    private static void queryOfAsManyAsThereAre() {
        int[] refused = {21, 22, 40, 700, 701, Integer.MAX_VALUE, -1, -2, -20, Integer.MIN_VALUE};
        TermShelf shelf = Due.shelf("var x;");
        feedRow(shelf, blanksBut(19, 'x'));
        for (int n : refused) {
            Due.due("query(" + n + ") of 20", shelf.query(n), Due.MISSING);
        }
        Due.due("query(20) of 20", shelf.query(20), 1);
        feedRow(shelf, blanksBut(19, 'x'));
        Due.due("query(19) of 20", shelf.query(19), Due.NONE);
        Due.faultIs(shelf, "first 19", 1, 19);
        Due.due("query(1) of none", shelf.query(1), Due.MISSING);
        Due.due("query(-1) of none", shelf.query(-1), Due.MISSING);
        Due.due("query(0) of none", shelf.query(0), Due.NONE);
        Due.faultIs(shelf, "nothing", 1, 0);
    }

    /** "-2, and the TAPE stays", and everything else does too. */
    private static void refusedTextKeepsTheTape() {
        TermShelf shelf = Due.shelf(TEXT, "f(a,x)");
        shelf.take(0);
        shelf.keep();
        String seen = Due.seen(shelf);
        Due.fed(shelf, "var x;");
        int[] refused = {21, -1, Integer.MAX_VALUE, Integer.MIN_VALUE};
        for (int n : refused) {
            Due.due("text(" + n + ")", shelf.text(n), Due.MISSING);
            Due.due("query(" + n + ")", shelf.query(n), Due.MISSING);
        }
        Due.same("all stays", Due.seen(shelf), seen);
        Due.due("the tape has 20 still", shelf.feed(BLANKS, BLANKS, BLANKS, BLANKS, BLANKS), 40);
        Due.due("and what it had", shelf.text(40), 1);
        Due.due("its variable", shelf.named(0, Due.letters("x")), 100);
    }

    /** "(it is empty then)": behind what is taken of it, too, with a FAULT or without. */
    private static void takenTextEmptiesTheTape() {
        TermShelf shelf = new TermShelf();
        feedRow(shelf, bytesOf("var x;var y;var z;  "));
        feedRow(shelf, bytesOf("var w;              "));
        Due.due("the first line alone", shelf.text(6), 1);
        Due.due("nothing is left", shelf.text(1), Due.MISSING);
        Due.due("twenty come", feedRow(shelf, bytesOf("x                   ")), 20);
        Due.due("a query", shelf.query(1), 1);
        Due.due("nothing is left", shelf.query(1), Due.MISSING);
        Due.due("twenty come", feedRow(shelf, blanksBut(3, BAD)), 20);
        Due.due("a faulty text", shelf.text(4), Due.NONE);
        Due.due("nothing is left", shelf.text(1), Due.MISSING);
        Due.due("twenty come", feedRow(shelf, blanksBut(3, BAD)), 20);
        Due.due("a faulty query", shelf.query(4), Due.NONE);
        Due.due("nothing is left", shelf.text(1), Due.MISSING);
        Due.due("twenty come", feedRow(shelf, blanksBut(3, BAD)), 20);
        Due.due("a text of 0 bytes", shelf.text(0), 0);
        Due.due("nothing is left", shelf.text(1), Due.MISSING);
        Due.due("twenty come", feedRow(shelf, blanksBut(3, BAD)), 20);
        Due.due("a query of 0 bytes", shelf.query(0), Due.NONE);
        Due.due("nothing is left", shelf.text(1), Due.MISSING);
    }

    private static void textOfNothing() {
        TermShelf shelf = Due.shelf(TEXT, "f(a,x)");
        Due.due("text(0)", shelf.text(0), 0);
        for (int what = 0; what <= 10; what++) {
            Due.due("count(" + what + ") then", shelf.count(what), 0);
        }
        Due.due("named a", shelf.named(0, Due.letters("a")), Due.NONE);
        Due.due("named p", shelf.named(1, Due.letters("p")), Due.NONE);
        Due.due("take(0)", shelf.take(0), Due.NONE);
        Due.goodText("", 0);
        Due.goodText(" \n ", 0);
    }

    /** "(all IN, no QUERY, no IMAGE, nothing to undo then)". */
    private static void newTextStartsAnew() {
        TermShelf shelf = Due.shelf(TEXT, "f(a,x)");
        shelf.take(0);
        shelf.keep();
        shelf.take(1);
        Due.due("two can be undone", shelf.count(10), 2);
        Due.due("the same text again", Due.told(shelf, TEXT), 5);
        Due.due("both are in", shelf.count(3), 2);
        Due.due("p is in", shelf.rule(0, 3), 1);
        Due.due("q is in", shelf.rule(1, 3), 1);
        Due.due("no query", shelf.count(7), 0);
        Due.due("no query is asked", shelf.asked(0), Due.MISSING);
        Due.due("no query fits", shelf.fits(0, 0), Due.NONE);
        Due.due("no image", shelf.back(), Due.NONE);
        Due.due("nothing to undo", shelf.count(10), 0);
        Due.due("nothing is undone", shelf.undo(), Due.NONE);
        Due.due("both are still in", shelf.count(3), 2);
    }

    /** Nothing of an earlier text, of its faulty ones neither, is left behind the rules of a new one. */
    private static void earlierTextsAreForgotten() {
        String many = "sign a 0;sign f 2;var x;var y;rule p f(x,y) = x;rule q f(x,x) = x;rule r x = a;rule s a = a;";
        TermShelf shelf = Due.shelf(many);
        for (int turn = 0; turn < 4; turn++) {
            Due.due("one rule", Due.told(shelf, "var x;rule p x;"), 2);
            Due.due("above(0)", shelf.above(0), 0);
            Due.due("shadowed()", shelf.shadowed(), 0);
            Due.due("tops()", shelf.tops(), 1);
            Due.due("criticals()", shelf.criticals(), 0);
            Due.due("its right term", shelf.rule(0, 1), 0);
            Due.due("its right term's code", shelf.code(0, 0, true), Due.MISSING);
            Due.due("no second rule", shelf.code(1, 0, false), Due.NONE);
            Due.due("no rule q", shelf.named(1, Due.letters("q")), Due.NONE);
            Due.due("no sign a", shelf.named(0, Due.letters("a")), Due.NONE);
            Due.due("no variable y", shelf.named(0, Due.letters("y")), Due.NONE);
            Due.due("places in sum", shelf.count(6), 1);
            Due.due("nodes", shelf.count(4), 1);
            Due.due("rules in", shelf.count(3), 1);
            Due.due("a query", Due.ask(shelf, "x"), 1);
            Due.due("found", shelf.finding(0, 0), 1);
            Due.due("tried(3, 0, 0)", shelf.tried(3, 0, 0), 1);
            Due.due("steps(0)", shelf.steps(0), 0);
            Due.due("many rules", Due.told(shelf, turn % 2 == 0 ? many + "?" : many), turn % 2 == 0 ? Due.NONE : 8);
        }
    }

    /** "NONE with a FAULT, all stays". */
    private static void faultyTextKeepsAll() {
        String[] faulty = {"?", "sign b 0;sign c 4;", "sign b 0;sign b 1;", "var z;rule r f(z,z);",
            "sign b 0;var z;rule r b;rule s b = z;", "sign b 0;rule r b;rule s b", "var"};
        for (String text : faulty) {
            TermShelf shelf = Due.shelf(TEXT, "f(a,x)");
            shelf.take(0);
            shelf.keep();
            shelf.take(1);
            int[] codes = {1, 100, 100};
            int in = shelf.count(3);
            Due.due("text of: " + text, Due.told(shelf, text), Due.NONE);
            Due.due("what is in stays", shelf.count(3), in);
            Due.due("signs stay", shelf.count(0), 2);
            Due.due("variables stay", shelf.count(1), 1);
            Due.due("rules stay", shelf.count(2), 2);
            Due.due("no sign b", shelf.named(0, Due.letters("b")), Due.NONE);
            Due.due("rule p stays", shelf.named(1, Due.letters("p")), 0);
            Due.due("no rule r", shelf.named(1, Due.letters("r")), Due.NONE);
            for (int place = 0; place < 3; place++) {
                Due.due("rule p's term stays", shelf.code(0, place, false), codes[place]);
            }
            Due.due("rule p's right term stays", shelf.code(0, 0, true), 100);
            Due.due("rule q has none still", shelf.rule(1, 1), 0);
            Due.due("the query stays", shelf.count(7), 3);
            Due.due("its last place", shelf.asked(2), 100);
            Due.due("what can be undone stays", shelf.undo(), 1);
            Due.due("q is in again", shelf.rule(1, 3), 1);
            Due.due("p is out still", shelf.rule(0, 3), 0);
            shelf.put(0);
            Due.due("the image stays", shelf.back(), 1);
        }
    }

    private static void faultyQueryKeepsAll() {
        String[] faulty = {"", "?", "f(a,a", "f(a,a,a)", "f(a,b)", "a;", "f(a,a) a", "f(f(a,a),f(a,f(a,f(a,f(a,f(a,x"};
        for (String text : faulty) {
            TermShelf shelf = Due.shelf(TEXT, "f(a,x)");
            shelf.take(0);
            shelf.keep();
            shelf.take(1);
            Due.due("query of: " + text, Due.ask(shelf, text), Due.NONE);
            int[] codes = {1, 0, 100};
            for (int place = 0; place < 3; place++) {
                Due.due("the query stays", shelf.asked(place), codes[place]);
            }
            Due.due("its places", shelf.count(7), 3);
            Due.due("rules stay", shelf.count(2), 2);
            Due.due("none is in", shelf.count(3), 0);
            Due.due("what can be undone stays", shelf.undo(), 1);
            Due.due("the image stays", shelf.back(), 1);
        }
        TermShelf none = Due.shelf(TEXT);
        Due.due("a faulty first query", Due.ask(none, "b"), Due.NONE);
        Due.due("there is none still", none.count(7), 0);
        Due.due("none is asked", none.asked(0), Due.MISSING);
    }

    private static void queryTakesThePlaceOfOne() {
        TermShelf shelf = Due.shelf(TEXT, "f(a,f(a,x))");
        shelf.take(0);
        shelf.keep();
        Due.due("a shorter query", Due.ask(shelf, "x"), 1);
        Due.due("its place", shelf.asked(0), 100);
        Due.due("no second place", shelf.asked(1), Due.MISSING);
        Due.due("p stays out", shelf.rule(0, 3), 0);
        Due.due("what can be undone stays", shelf.count(10), 1);
        Due.due("the image stays", shelf.back(), 1);
    }

    /** "its FAULT (0), 1: its place (NONE without)". */
    private static void faultAtFirst() {
        TermShelf shelf = new TermShelf();
        Due.faultIs(shelf, "a new object", 0, Due.NONE);
        shelf.text(1);
        shelf.query(-1);
        Due.faultIs(shelf, "-2 at first", 0, Due.NONE);
    }

    /** "Of the latest text() or query() that was not -2". */
    private static void faultOfTheLatest() {
        TermShelf shelf = new TermShelf();
        Due.told(shelf, "  ?");
        Due.faultIs(shelf, "text", 1, 2);
        Due.due("text(9)", shelf.text(9), Due.MISSING);
        Due.due("query(-1)", shelf.query(-1), Due.MISSING);
        Due.faultIs(shelf, "behind -2", 1, 2);
        Due.ask(shelf, " a");
        Due.faultIs(shelf, "query", 4, 1);
        Due.told(shelf, "var x;");
        Due.faultIs(shelf, "good text", 0, Due.NONE);
        Due.ask(shelf, "y");
        Due.faultIs(shelf, "query", 4, 0);
        Due.ask(shelf, "x");
        Due.faultIs(shelf, "good query", 0, Due.NONE);
        Due.due("text(9)", shelf.text(9), Due.MISSING);
        Due.faultIs(shelf, "behind -2", 0, Due.NONE);
        Due.told(shelf, "var x;var x;");
        Due.faultIs(shelf, "text", 3, 10);
        shelf.draw(0);
        shelf.chance(0, 0);
        shelf.take(0);
        shelf.keep();
        shelf.back();
        Due.faultIs(shelf, "other calls", 3, 10);
    }

    /** "NONE for another what". */
    private static void faultOfOtherWhat() {
        TermShelf shelf = new TermShelf();
        Due.told(shelf, "  ?");
        int[] others = {-1, 2, 3, Integer.MIN_VALUE, Integer.MAX_VALUE};
        for (int what : others) {
            Due.due("fault(" + what + ")", shelf.fault(what), Due.NONE);
        }
    }

    /** "An object is used for at most 512 calls": the last one is answered as the first one. */
    private static void fiveHundredAndTwelveCalls() {
        TermShelf shelf = Due.shelf(TEXT, "f(a,a)");
        int calls = 6;
        while (calls + 7 <= 512) {
            Due.due("take(0)", shelf.take(0), 3);
            Due.due("found(0, 0)", shelf.found(0, 0), Due.MISSING);
            Due.due("steps(0)", shelf.steps(0), 0);
            Due.due("put(0)", shelf.put(0), 3);
            Due.due("found(0, 0)", shelf.found(0, 0), 0);
            Due.due("steps(0)", shelf.steps(0), 1);
            Due.due("meeting(0, 2)", shelf.meeting(0, 2), 0);
            calls += 7;
        }
        for (; calls < 512; calls++) {
            Due.due("count(10)", shelf.count(10), 20);
        }
    }
}
