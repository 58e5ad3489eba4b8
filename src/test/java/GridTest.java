import java.util.NoSuchElementException;

/** Every call with every argument at and beside its edges, in some standings: the answers must be the model's. */
public final class GridTest {
    private static final String SIGNS = "sign a 0;sign b 0;sign f 2;sign g 1;sign h 3;var x;var y;";
    private static final String[][] STANDINGS = {
        {"", null, ""},
        {SIGNS, null, ""},
        {SIGNS, "f(a,x)", ""},
        {SIGNS + "rule p f(x,y);rule q f(x,x) = x;rule r f(a,g(y)) = h(y,y,a);", null, "1"},
        {SIGNS + "rule p f(x,y);rule q f(x,x) = x;rule r f(a,g(y)) = h(y,y,a);", "f(a,g(b))", ""},
        {SIGNS + "rule p f(x,y);rule q f(x,x) = x;rule r f(a,g(y)) = h(y,y,a);", "f(x,y)", "0"},
        {SIGNS + "rule p f(x,y);rule q f(y,x);rule r x = f(x,x);", "f(g(x),x)", "2"},
        {SIGNS + "rule p f(x,y);rule q f(y,x);rule r x = f(x,x);", "x", "012"},
        {SIGNS + "rule p h(x,h(g(x),x,x),h(x,x,x)) = g(x);rule q h(g(g(g(g(g(g(g(y))))))),x,x) = g(y);", "h(x,y,y)", ""},
        {SIGNS + "rule p g(g(g(g(g(g(g(g(g(g(g(a))))))))))) = b;rule q g(x) = x;", "g(g(g(g(g(g(g(g(g(g(g(a)))))))))))", "1"},
    };
    private static final int MIN = Integer.MIN_VALUE;
    private static final int MAX = Integer.MAX_VALUE;
    private static final int[] RULES = {MIN, -2, -1, 0, 1, 2, 3, 4, 15, 16, 31, 32, 33, MAX};
    private static final int[] FEW = {MIN, -1, 0, 1, 2, 3, 4, 5, MAX};
    private static final int[] NUMBERS = {MIN, -1, 0, 1, 2, 3, 4, 5, 6, 7, 8, 9, 10, 11, 12, 13, 58, 59, 60, 61, MAX};
    private static final int[] ENDS = {-1, 0, 1, 2, 3, 11, 12, 13};

    private final String[] standing;
    private TermShelf shelf;
    private Model model;
    private int calls = 1000;

    private GridTest(String[] standing) {
        this.standing = standing;
    }

    public static void main(String[] args) {
        for (String[] standing : STANDINGS) {
            GridTest grid = new GridTest(standing);
            grid.none();
            grid.ofNumbers();
            grid.ofRules();
            grid.ofTwoRules();
            grid.ofWays();
            grid.turns();
        }
        Due.end("GridTest");
    }

    /** No shelf is used for more than 512 calls; making one ready takes 20 at most. */
    private void ready() {
        if (calls < 500) {
            return;
        }
        calls = 20;
        shelf = new TermShelf();
        model = new Model();
        feed(standing[0]);
        Due.due("text", shelf.text(standing[0].length()), model.text(standing[0].length()));
        if (standing[1] != null) {
            feed(standing[1]);
            Due.due("query", shelf.query(standing[1].length()), model.query(standing[1].length()));
        }
        for (char rule : standing[2].toCharArray()) {
            Due.due("take", shelf.take(rule - '0'), model.take(rule - '0'));
        }
    }

    private void feed(String text) {
        for (int at = 0; at < text.length(); at += 20) {
            int[] numbers = new int[5];
            for (int i = 0; i < 20; i++) {
                int sign = at + i < text.length() ? text.charAt(at + i) : 32;
                numbers[i / 4] = numbers[i / 4] << 8 | sign;
            }
            Due.due("feed", shelf.feed(numbers[0], numbers[1], numbers[2], numbers[3], numbers[4]),
                    model.feed(numbers[0], numbers[1], numbers[2], numbers[3], numbers[4]));
        }
    }

    private void same(String call, int got, int want) {
        calls++;
        if (got != want) {
            Due.due(call + " of " + String.join(" | ", standing[0], "" + standing[1], standing[2]), got, want);
        } else {
            Due.due(call, got, want);
        }
    }

    private static int ruled(TermShelf shelf, int rule, int what) {
        try {
            return shelf.rule(rule, what);
        } catch (IndexOutOfBoundsException e) {
            return 1001;
        } catch (NoSuchElementException e) {
            return 1002;
        }
    }

    private void none() {
        ready();
        same("shadowed()", shelf.shadowed(), model.shadowed());
        same("criticals()", shelf.criticals(), model.criticals());
        same("tops()", shelf.tops(), model.tops());
        same("feed", shelf.feed(0, 0, 0, 0, 0), model.feed(0, 0, 0, 0, 0));
    }

    private void ofNumbers() {
        for (int n : NUMBERS) {
            ready();
            same("fault(" + n + ")", shelf.fault(n), model.fault(n));
            same("asked(" + n + ")", shelf.asked(n), model.asked(n));
            same("steps(" + n + ")", shelf.steps(n), model.steps(n));
            same("normal(" + n + ")", shelf.normal(n), model.normal(n));
            same("apart(" + n + ")", shelf.apart(n), model.apart(n));
            same("width(" + n + ")", shelf.width(n), model.width(n));
            same("order(" + n + ")", shelf.order(n), model.order(n));
            same("count(" + n + ")", shelf.count(n), model.count(n));
            for (int k : NUMBERS) {
                ready();
                same("branch(" + n + ", " + k + ")", shelf.branch(n, k), model.branch(n, k));
                same("found(" + n + ", " + k + ")", shelf.found(n, k), model.found(n, k));
            }
            int letters = Due.letters("p") + n;
            for (int what : FEW) {
                ready();
                same("named(" + what + ", " + letters + ")", shelf.named(what, letters), model.named(what, letters));
            }
        }
    }

    private void ofRules() {
        for (int rule : RULES) {
            ready();
            same("above(" + rule + ")", shelf.above(rule), model.above(rule));
            same("depth(" + rule + ")", shelf.depth(rule), model.depth(rule));
            for (int what : FEW) {
                ready();
                same("rule(" + rule + ", " + what + ")", ruled(shelf, rule, what), model.rule(rule, what));
                same("fits(" + what + ", " + rule + ")", shelf.fits(what, rule), model.fits(what, rule));
                for (int k : ENDS) {
                    ready();
                    same("filled(" + rule + ", " + what + ", " + k + ")", shelf.filled(rule, what, k),
                            model.filled(rule, what, k));
                }
            }
            for (int n : NUMBERS) {
                ready();
                same("code(" + rule + ", " + n + ", false)", shelf.code(rule, n, false), model.code(rule, n, false));
                same("code(" + rule + ", " + n + ", true)", shelf.code(rule, n, true), model.code(rule, n, true));
                same("skip(" + rule + ", " + n + ")", shelf.skip(rule, n), model.skip(rule, n));
                same("meeting(" + rule + ", " + n + ")", shelf.meeting(rule, n), model.meeting(rule, n));
            }
        }
    }

    private void ofTwoRules() {
        for (int one : RULES) {
            for (int other : RULES) {
                String both = "(" + one + ", " + other;
                ready();
                same("overlaps" + both + ")", shelf.overlaps(one, other), model.overlaps(one, other));
                same("shared" + both + ")", shelf.shared(one, other), model.shared(one, other));
                for (int k : ENDS) {
                    ready();
                    same("joined" + both + ", " + k + ")", shelf.joined(one, other, k), model.joined(one, other, k));
                    same("beside" + both + ", " + k + ")", shelf.beside(one, other, k), model.beside(one, other, k));
                    for (int n : ENDS) {
                        ready();
                        same("critical" + both + ", " + k + ", " + n + ")", shelf.critical(one, other, k, n),
                                model.critical(one, other, k, n));
                    }
                    critical(one, other, k);
                }
            }
        }
    }

    private void critical(int one, int other, int place) {
        for (int k = 58; k <= 61; k++) {
            ready();
            same("critical(" + one + ", " + other + ", " + place + ", " + k + ")", shelf.critical(one, other, place, k),
                    model.critical(one, other, place, k));
        }
    }

    private void ofWays() {
        for (int how : FEW) {
            ready();
            same("specific(" + how + ")", shelf.specific(how), model.specific(how));
            for (int seed : new int[] {MIN, -1, 0, 1, 1000, MAX - 1, MAX}) {
                ready();
                same("chance(" + seed + ", " + how + ")", shelf.chance(seed, how), model.chance(seed, how));
            }
            for (int what : FEW) {
                ready();
                same("finding(" + how + ", " + what + ")", shelf.finding(how, what), model.finding(how, what));
                for (int i : RULES) {
                    ready();
                    same("tried(" + what + ", " + how + ", " + i + ")", shelf.tried(what, how, i),
                            model.tried(what, how, i));
                }
            }
        }
    }

    /** Each of these changes what it is about, so each one has a shelf of its own, as do its two calls behind it. */
    private void turns() {
        for (int rule : RULES) {
            calls = 1000;
            ready();
            same("take(" + rule + ")", shelf.take(rule), model.take(rule));
            same("put(" + rule + ")", shelf.put(rule), model.put(rule));
            same("put(" + rule + ") again", shelf.put(rule), model.put(rule));
            same("take(" + rule + ") again", shelf.take(rule), model.take(rule));
            same("undo()", shelf.undo(), model.undo());
            same("back()", shelf.back(), model.back());
            same("keep()", shelf.keep(), model.keep());
            same("undo()", shelf.undo(), model.undo());
            same("back()", shelf.back(), model.back());
            same("undo()", shelf.undo(), model.undo());
        }
        for (int seed : new int[] {MIN, -1, 0, 1, 1000, MAX - 1, MAX}) {
            calls = 1000;
            ready();
            same("draw(" + seed + ")", shelf.draw(seed), model.draw(seed));
            for (int place = -1; place <= 12; place++) {
                same("asked(" + place + ")", shelf.asked(place), model.asked(place));
            }
        }
        for (int n : new int[] {MIN, -1, 0, 1, 19, 20, 21, 699, 700, 701, MAX}) {
            calls = 1000;
            ready();
            feed("var x;   ");
            same("query(" + n + ")", shelf.query(n), model.query(n));
            same("text(" + n + ")", shelf.text(n), model.text(n));
            same("feed", shelf.feed(0, 0, 0, 0, 0), model.feed(0, 0, 0, 0, 0));
        }
    }
}
