import java.nio.charset.StandardCharsets;

/** What the project's tests share: answers that are due, texts fed to a shelf, names as letters. */
final class Due {
    static final int NONE = TermShelf.NONE;
    static final int MISSING = -2;

    private static int looked = 0;
    private static int wrong = 0;

    private Due() {
    }

    static void due(String call, long got, long want) {
        looked++;
        if (got != want) {
            wrong++;
            System.out.println(call + " answered " + got + ", due is " + want);
        }
    }

    /** Ends the test, with exit code 1 if an answer was wrong. */
    static void end(String name) {
        System.out.println(name + ": " + looked + " answers, " + wrong + " wrong");
        if (wrong != 0 || looked == 0) {
            System.exit(1);
        }
    }

    /** Feeds a text, with blanks behind it to fill the last twenty bytes; answers its length. */
    static int fed(TermShelf shelf, String text) {
        byte[] bytes = text.getBytes(StandardCharsets.ISO_8859_1);
        for (int at = 0; at < bytes.length; at += 20) {
            int[] numbers = new int[5];
            for (int i = 0; i < 20; i++) {
                int sign = at + i < bytes.length ? bytes[at + i] & 255 : 32;
                numbers[i / 4] = numbers[i / 4] << 8 | sign;
            }
            shelf.feed(numbers[0], numbers[1], numbers[2], numbers[3], numbers[4]);
        }
        return bytes.length;
    }

    static int told(TermShelf shelf, String text) {
        return shelf.text(fed(shelf, text));
    }

    static int ask(TermShelf shelf, String text) {
        return shelf.query(fed(shelf, text));
    }

    static TermShelf shelf(String text) {
        TermShelf shelf = new TermShelf();
        if (told(shelf, text) < 0) {
            due("text of: " + text, NONE, 0);
        }
        return shelf;
    }

    static TermShelf shelf(String text, String query) {
        TermShelf shelf = shelf(text);
        if (ask(shelf, query) < 0) {
            due("query of: " + query, NONE, 0);
        }
        return shelf;
    }

    static void faultyText(String text, int fault, int place) {
        faulty("text", text, told(FAULTY, text), fault, place);
    }

    static void faultyQuery(TermShelf shelf, String text, int fault, int place) {
        int got = ask(shelf, text);
        due("query of: " + text, got, NONE);
        due("its fault: " + text, shelf.fault(0), fault);
        due("its fault's place: " + text, shelf.fault(1), place);
    }

    private static final TermShelf FAULTY = new TermShelf();

    private static void faulty(String call, String text, int got, int fault, int place) {
        due(call + " of: " + text, got, NONE);
        due("its fault: " + text, FAULTY.fault(0), fault);
        due("its fault's place: " + text, FAULTY.fault(1), place);
    }

    static int letters(String name) {
        int letters = 0;
        for (int i = 0; i < 6; i++) {
            letters = letters << 5 | (i < name.length() ? name.charAt(i) - 'a' + 1 : 0);
        }
        return letters;
    }

    static String repeated(String part, int times) {
        return part.repeat(times);
    }
}
