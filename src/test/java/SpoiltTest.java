import java.util.ArrayList;
import java.util.List;

/** Texts and queries spoilt at one token, every token in every way: answer, fault and place must be the model's. */
public final class SpoiltTest {
    private static final String[] TEXT = {"sign", "a", "0", ";", "sign", "f", "2", ";", "sign", "g", "1", ";", "var", "x",
        ";", "var", "y", ";", "rule", "p", "f", "(", "x", ",", "g", "(", "y", ")", ")", "=", "f", "(", "a", ",", "x", ")",
        ";", "rule", "q", "a", ";"};
    private static final String[] QUERY = {"f", "(", "g", "(", "x", ")", ",", "f", "(", "y", ",", "a", ")", ")"};
    private static final String[] OTHERS = {"sign", "var", "rule", "a", "f", "g", "x", "y", "p", "q", "z", "abcdef",
        "abcdefg", "0", "1", "2", "3", "4", "99999999999", "(", ")", ",", "=", ";", "?", "A", "g(x)", "f(x,y)", ""};

    public static void main(String[] args) {
        for (String gap : new String[] {" ", "\n "}) {
            for (int at = 0; at <= TEXT.length; at++) {
                for (String other : OTHERS) {
                    sameText(spoilt(TEXT, at, other, true, gap));
                    sameText(spoilt(TEXT, at, other, false, gap));
                }
                sameText(joined(TEXT, at, gap));
            }
            for (int at = 0; at <= QUERY.length; at++) {
                for (String other : OTHERS) {
                    sameQuery(spoilt(QUERY, at, other, true, gap));
                    sameQuery(spoilt(QUERY, at, other, false, gap));
                }
                sameQuery(joined(QUERY, at, gap));
            }
        }
        Due.end("SpoiltTest");
    }

    /** With another token in place of one, or put in ahead of it. */
    private static String spoilt(String[] tokens, int at, String other, boolean inPlace, String gap) {
        List<String> all = new ArrayList<>(List.of(tokens));
        if (inPlace && at < all.size()) {
            all.remove(at);
        }
        all.add(at, other);
        return joined(all.toArray(new String[0]), all.size(), gap);
    }

    /** So many of the tokens, with gaps between them. */
    private static String joined(String[] tokens, int count, String gap) {
        StringBuilder text = new StringBuilder();
        for (int i = 0; i < count; i++) {
            text.append(tokens[i]).append(gap);
        }
        return text.toString();
    }

    private static void sameText(String text) {
        TermShelf shelf = new TermShelf();
        Model model = new Model();
        feed(shelf, model, text);
        Due.due("text of: " + text, shelf.text(text.length()), model.text(text.length()));
        Due.faultIs(shelf, text, model.fault(0), model.fault(1));
        for (int what = 0; what <= 10; what++) {
            Due.due("count(" + what + ") of: " + text, shelf.count(what), model.count(what));
        }
    }

    private static void sameQuery(String text) {
        TermShelf shelf = new TermShelf();
        Model model = new Model();
        String told = joined(TEXT, TEXT.length, "\n");
        feed(shelf, model, told);
        Due.due("the good text", shelf.text(told.length()), model.text(told.length()));
        feed(shelf, model, text);
        Due.due("query of: " + text, shelf.query(text.length()), model.query(text.length()));
        Due.faultIs(shelf, text, model.fault(0), model.fault(1));
        Due.due("places of: " + text, shelf.count(7), model.count(7));
    }

    private static void feed(TermShelf shelf, Model model, String text) {
        for (int at = 0; at < text.length(); at += 20) {
            int[] numbers = new int[5];
            for (int i = 0; i < 20; i++) {
                int sign = at + i < text.length() ? text.charAt(at + i) : 32;
                numbers[i / 4] = numbers[i / 4] << 8 | sign;
            }
            Due.due("feed", shelf.feed(numbers[0], numbers[1], numbers[2], numbers[3], numbers[4]),
                    model.feed(numbers[0], numbers[1], numbers[2], numbers[3], numbers[4]));
        }
    }
}
