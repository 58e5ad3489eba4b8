import java.nio.charset.StandardCharsets;

/** What the project's tests share: answers that are due, texts fed to a shelf, names as letters. */
final class Due {
    static final int NONE = TermShelf.NONE;
    static final int MISSING = -2;

    private static int looked = 0;
    private static int wrong = 0;

    private Due() {
    }

    static void due(String call, long got, long want) {
        looked++;
        if (got != want) {
            wrong++;
            System.out.println(call + " answered " + got + ", due is " + want);
        }
    }

    /** Ends the test, with exit code 1 if an answer was wrong. */
    static void end(String name) {
        System.out.println(name + ": " + looked + " answers, " + wrong + " wrong");
        if (wrong != 0 || looked == 0) {
            System.exit(1);
        }
    }

    /** Feeds a text, with blanks behind it to fill the last twenty bytes; answers its length. */
    static int fed(TermShelf shelf, String text) {
        byte[] bytes = text.getBytes(StandardCharsets.ISO_8859_1);
        for (int at = 0; at < bytes.length; at += 20) {
            int[] numbers = new int[5];
            for (int i = 0; i < 20; i++) {
                int sign = at + i < bytes.length ? bytes[at + i] & 255 : 32;
                numbers[i / 4] = numbers[i / 4] << 8 | sign;
            }
            shelf.feed(numbers[0], numbers[1], numbers[2], numbers[3], numbers[4]);
        }
        return bytes.length;
    }

    static int told(TermShelf shelf, String text) {
        return shelf.text(fed(shelf, text));
    }

    static int ask(TermShelf shelf, String text) {
        return shelf.query(fed(shelf, text));
    }

    static TermShelf shelf(String text) {
        TermShelf shelf = new TermShelf();
        if (told(shelf, text) < 0) {
            due("text of: " + text, NONE, 0);
        }
        return shelf;
    }

    static TermShelf shelf(String text, String query) {
        TermShelf shelf = shelf(text);
        if (ask(shelf, query) < 0) {
            due("query of: " + query, NONE, 0);
        }
        return shelf;
    }

    /** Each text has a shelf of its own, for none may be used for more than 512 calls. */
    static void faultyText(String text, int fault, int place) {
        TermShelf shelf = new TermShelf();
        due("text of: " + text, told(shelf, text), NONE);
        faultIs(shelf, text, fault, place);
        due("no lines of: " + text, shelf.count(0) + shelf.count(1) + shelf.count(2), 0);
    }

    static void faultyQuery(TermShelf shelf, String text, int fault, int place) {
        due("query of: " + text, ask(shelf, text), NONE);
        faultIs(shelf, text, fault, place);
    }

    static void goodText(String text, int lines) {
        TermShelf shelf = new TermShelf();
        due("text of: " + text, told(shelf, text), lines);
        faultIs(shelf, text, 0, NONE);
    }

    static void goodQuery(TermShelf shelf, String text, int places) {
        due("query of: " + text, ask(shelf, text), places);
        faultIs(shelf, text, 0, NONE);
    }

    static void faultIs(TermShelf shelf, String text, int fault, int place) {
        due("fault of: " + text, shelf.fault(0), fault);
        due("fault's place of: " + text, shelf.fault(1), place);
    }

    /** What can be seen of a shelf without changing it, but for its tape. */
    static String seen(TermShelf shelf) {
        StringBuilder all = new StringBuilder();
        for (int what = 0; what <= 10; what++) {
            all.append(shelf.count(what)).append(' ');
        }
        all.append(shelf.fault(0)).append(' ').append(shelf.fault(1)).append(" query");
        int places = shelf.count(7);
        for (int place = 0; place < places; place++) {
            all.append(' ').append(shelf.asked(place));
        }
        all.append(" in");
        int in = shelf.count(3);
        for (int k = 0; k < in; k++) {
            all.append(' ').append(shelf.order(k));
        }
        all.append(" rules");
        int rules = shelf.count(2);
        for (int rule = 0; rule < rules; rule++) {
            all.append(' ').append(shelf.rule(rule, 0)).append(' ').append(shelf.rule(rule, 1));
        }
        return all.toString();
    }

    static void same(String call, String got, String want) {
        looked++;
        if (!got.equals(want)) {
            wrong++;
            System.out.println(call + " answered " + got + ", due is " + want);
        }
    }

    static int letters(String name) {
        int letters = 0;
        for (int i = 0; i < 6; i++) {
            letters = letters << 5 | (i < name.length() ? name.charAt(i) - 'a' + 1 : 0);
        }
        return letters;
    }

    static String repeated(String part, int times) {
        return part.repeat(times);
    }
}
