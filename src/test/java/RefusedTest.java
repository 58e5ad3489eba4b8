import java.util.NoSuchElementException;

/** Calls that are refused, and calls that only tell something, change nothing. */
public final class RefusedTest {
    private static final String TEXT = "sign a 0;sign f 2;sign g 1;var x;var y;rule p f(x,y) = f(y,g(x));rule q f(x,x);"
            + "rule r f(a,g(y)) = a;rule s g(x);";
    private static final int[] ODD = {-1, 4, 32, Integer.MIN_VALUE, Integer.MAX_VALUE};

    public static void main(String[] args) {
        for (int group = 0; group < 7; group++) {
            TermShelf shelf = full();
            String seen = Due.seen(shelf);
            refuse(shelf, group);
            stays("refused calls, group " + group, shelf, seen);
        }
        for (int group = 0; group < 4; group++) {
            TermShelf shelf = full();
            String seen = Due.seen(shelf);
            tell(shelf, group);
            stays("telling calls, group " + group, shelf, seen);
        }
        emptyStays();
        Due.end("RefusedTest");
    }

    /** Rules 1 and 3 are out, two can be undone, the image has all but rule 3, a query is on the tape. */
    private static TermShelf full() {
        TermShelf shelf = Due.shelf(TEXT, "f(a,g(x))");
        shelf.take(3);
        shelf.keep();
        shelf.take(1);
        Due.fed(shelf, "f(x,g(g(a)))        ");
        return shelf;
    }

    private static void stays(String calls, TermShelf shelf, String seen) {
        Due.same(calls, Due.seen(shelf), seen);
        Due.due(calls + ": the tape stays", shelf.feed(0x20202020, 0x20202020, 0x20202020, 0x20202020, 0x20202020), 40);
        Due.due(calls + ": what is on it stays", shelf.query(40), 5);
        Due.due(calls + ": what can be undone stays", shelf.undo(), 1);
        Due.due(calls + ": it was rule 1", shelf.rule(1, 3), 1);
        Due.due(calls + ": undo again", shelf.undo(), 0);
        Due.due(calls + ": it was rule 3", shelf.rule(3, 3), 1);
        Due.due(calls + ": the image stays", shelf.back(), 3);
        Due.due(calls + ": it has not rule 3", shelf.rule(3, 3), 0);
    }

    private static int ruled(TermShelf shelf, int rule, int what) {
        try {
            return shelf.rule(rule, what);
        } catch (IndexOutOfBoundsException | NoSuchElementException e) {
            return Due.NONE;
        }
    }

    private static void refused(String call, int answer) {
        Due.due(call + " is refused", answer == Due.NONE || answer == Due.MISSING ? 1 : 0, 1);
    }

    private static void refuse(TermShelf shelf, int group) {
        for (int odd : ODD) {
            switch (group) {
                case 0:
                    refused("take", shelf.take(odd));
                    refused("put", shelf.put(odd));
                    refused("take of one out", shelf.take(1));
                    refused("put of one in", shelf.put(0));
                    break;
                case 1:
                    refused("text", shelf.text(odd == 4 ? 21 : odd));
                    refused("query", shelf.query(odd == 4 ? 21 : odd));
                    refused("fault", shelf.fault(odd));
                    refused("named", shelf.named(odd, Due.letters("a")));
                    refused("named", shelf.named(0, odd));
                    refused("rule", ruled(shelf, odd, 0));
                    refused("rule", ruled(shelf, 0, odd == 4 ? 5 : odd));
                    break;
                case 2:
                    refused("code", shelf.code(odd, 0, false));
                    refused("code", shelf.code(0, odd, true));
                    refused("skip", shelf.skip(odd, 0));
                    refused("skip", shelf.skip(0, odd));
                    refused("asked", shelf.asked(odd));
                    refused("fits", shelf.fits(odd, 0));
                    refused("fits", shelf.fits(0, odd));
                    refused("found", shelf.found(odd, 0));
                    refused("found", shelf.found(0, odd));
                    refused("finding", shelf.finding(odd, 0));
                    refused("finding", shelf.finding(0, odd));
                    break;
                case 3:
                    refused("filled", shelf.filled(odd, 0, 0));
                    refused("filled", shelf.filled(0, odd, 0));
                    refused("filled", shelf.filled(0, 0, odd));
                    refused("meeting", shelf.meeting(odd, 0));
                    refused("meeting", shelf.meeting(0, odd == 4 ? 5 : odd));
                    refused("above", shelf.above(odd));
                    refused("joined", shelf.joined(odd, 0, 0));
                    refused("joined", shelf.joined(0, 1, odd));
                    refused("overlaps", shelf.overlaps(odd, 0));
                    refused("shared", shelf.shared(0, odd));
                    break;
                case 4:
                    refused("critical", shelf.critical(odd, 0, 0, 0));
                    refused("critical", shelf.critical(0, odd, 0, 0));
                    refused("critical", shelf.critical(0, 1, odd, 0));
                    refused("critical", shelf.critical(0, 1, 0, odd));
                    refused("depth", shelf.depth(odd));
                    refused("specific", shelf.specific(odd));
                    refused("branch", shelf.branch(odd, 9));
                    refused("branch", shelf.branch(1, odd));
                    refused("beside", shelf.beside(odd, 0, 0));
                    refused("beside", shelf.beside(0, 1, odd));
                    break;
                case 5:
                    refused("steps", shelf.steps(odd));
                    refused("normal", shelf.normal(odd == 4 || odd == 32 ? odd + 60 : odd));
                    refused("apart", shelf.apart(odd));
                    refused("width", shelf.width(odd == 4 ? 12 : odd));
                    refused("order", shelf.order(odd));
                    refused("count", shelf.count(odd == 4 ? 11 : odd));
                    break;
                default:
                    refused("chance", shelf.chance(0, odd));
                    refused("chance", shelf.chance(-1, 0));
                    refused("draw", shelf.draw(odd < 0 ? odd : -odd));
                    refused("tried", shelf.tried(odd == 4 ? 5 : odd, 0, 0));
                    refused("tried", shelf.tried(0, odd, 0));
                    refused("tried", shelf.tried(2, 0, odd));
                    refused("tried", shelf.tried(4, 0, odd));
                    break;
            }
        }
    }

    private static void tell(TermShelf shelf, int group) {
        for (int how = 0; how < 3; how++) {
            switch (group) {
                case 0:
                    shelf.found(how, 0);
                    shelf.finding(how, 0);
                    shelf.finding(how, 1);
                    shelf.finding(how, 2);
                    shelf.specific(how);
                    shelf.fits(how, 0);
                    shelf.fits(3, how);
                    shelf.filled(how, 0, 0);
                    shelf.meeting(how, 0);
                    shelf.asked(how);
                    break;
                case 1:
                    shelf.steps(how);
                    shelf.normal(how);
                    shelf.chance(17 * how, how);
                    shelf.apart(how);
                    shelf.width(how);
                    shelf.branch(how + 1, 0);
                    shelf.order(how);
                    break;
                case 2:
                    for (int what = 0; what < 5; what++) {
                        shelf.tried(what, how, 0);
                    }
                    shelf.tried(2, how, how);
                    break;
                default:
                    shelf.above(how);
                    shelf.shadowed();
                    shelf.tops();
                    shelf.criticals();
                    shelf.joined(how, 1, 0);
                    shelf.overlaps(how, 1);
                    shelf.shared(how, 1);
                    shelf.critical(0, how, 0, 0);
                    shelf.depth(how);
                    shelf.beside(how, 0, 0);
                    shelf.beside(how, 0, 1);
                    shelf.code(how, 0, true);
                    shelf.skip(how, 0);
                    shelf.named(0, Due.letters("a"));
                    break;
            }
        }
    }

    /** Without an image and without anything to undo, back and undo are refused too. */
    private static void emptyStays() {
        TermShelf shelf = Due.shelf(TEXT, "f(a,g(x))");
        String seen = Due.seen(shelf);
        refused("undo", shelf.undo());
        refused("back", shelf.back());
        refused("undo", shelf.undo());
        Due.same("undo and back of none", Due.seen(shelf), seen);
        TermShelf none = Due.shelf("sign g 1;");
        String before = Due.seen(none);
        refused("draw of none", none.draw(1));
        refused("chance of none", none.chance(1, 0));
        Due.same("draw of none", Due.seen(none), before);
    }
}
