import java.util.NoSuchElementException;
import java.util.Random;

/** Runs of calls drawn by a fixed seed; the shelf must answer as the model does. */
public final class ModelTest {
    private static final int RUNS = 1200;
    /** A last text takes 38 calls at most, so that no run has more than 512. */
    private static final int CALLS = 474;

    private final Random random;
    private final TermShelf shelf = new TermShelf();
    private final Model model = new Model();
    private String name = "";
    private String[] signs = {};
    private int[] arities = {};
    private String[] variables = {};
    private int calls = 0;

    private ModelTest(int run) {
        random = new Random(run);
        name = "run " + run;
    }

    public static void main(String[] args) {
        int runs = args.length > 0 ? Integer.parseInt(args[0]) : RUNS;
        for (int run = 0; run < runs; run++) {
            new ModelTest(run).runAll();
        }
        Due.end("ModelTest");
    }

    private void runAll() {
        tell();
        ask();
        while (calls < CALLS) {
            int which = random.nextInt(60);
            if (which == 0 && random.nextInt(4) == 0) {
                tell();
            } else if (which < 5) {
                ask();
            } else if (which == 5 && calls < CALLS - 60 && upTo(3) == 0) {
                turnAndUndo();
            } else {
                look(random.nextInt(38));
            }
        }
    }

    /** More turns than can be undone, and some of them, or all, undone. */
    private void turnAndUndo() {
        int turns = 15 + upTo(15);
        for (int turn = 0; turn < turns; turn++) {
            int rule = anyRule();
            if (upTo(1) == 0) {
                same("take " + rule, shelf.take(rule), model.take(rule));
            } else {
                same("put " + rule, shelf.put(rule), model.put(rule));
            }
        }
        int undone = upTo(25);
        for (int turn = 0; turn < undone; turn++) {
            same("undo", shelf.undo(), model.undo());
        }
        same("rules in", shelf.count(3), model.count(3));
    }

    private int upTo(int most) {
        return random.nextInt(most + 1);
    }

    /** Mostly one of 0 .. most, at times one beside it or far off. */
    private int near(int most) {
        int which = random.nextInt(40);
        if (which == 0) {
            return random.nextInt();
        }
        return which == 1 ? -1 : which == 2 ? most + 1 : upTo(most);
    }

    private int anyRule() {
        return near(Math.max(0, model.count(2) - 1));
    }

    private void tell() {
        StringBuilder text = new StringBuilder();
        int style = random.nextInt(5);
        signs = new String[style == 0 ? upTo(8) : 2 + upTo(3)];
        arities = new int[signs.length];
        for (int i = 0; i < signs.length; i++) {
            signs[i] = String.valueOf((char) ('a' + i));
            arities[i] = i == 0 && upTo(9) > 0 ? 0 : upTo(3);
            text.append("sign ").append(signs[i]).append(' ').append(arities[i]).append(';');
        }
        variables = new String[upTo(4)];
        for (int i = 0; i < variables.length; i++) {
            variables[i] = String.valueOf((char) ('w' + i));
            text.append("var ").append(variables[i]).append(';');
        }
        int rules = upTo(16);
        int most = 1 + upTo(11);
        for (int i = 0; i < rules; i++) {
            String left = term(most, null);
            String line = "rule " + (char) ('a' + i) + " " + left;
            if (upTo(2) == 0) {
                line += "=" + term(1 + upTo(11), left);
            }
            if (text.length() + line.length() + 1 <= 690) {
                text.append(line).append(';');
            }
        }
        int n = fed(spoilt(text.toString()));
        same("text(" + n + ")", shelf.text(n), model.text(n));
        faults();
    }

    private void ask() {
        if (upTo(9) == 0) {
            int seed = near(1000000);
            same("draw(" + seed + ")", shelf.draw(seed), model.draw(seed));
            return;
        }
        int n = fed(spoilt(term(1 + upTo(11), null)));
        n = upTo(30) == 0 ? near(700) : n;
        same("query(" + n + ")", shelf.query(n), model.query(n));
        faults();
    }

    private void faults() {
        same("fault(0)", shelf.fault(0), model.fault(0));
        same("fault(1)", shelf.fault(1), model.fault(1));
    }

    /** A term of at most so many places where that can be; with a left term, of its variables. */
    private String term(int most, String left) {
        room = most - 1;
        return part(left, 0);
    }

    private int room;

    private String part(String left, int depth) {
        int choices = signs.length + variables.length;
        for (int turn = 0; turn < 20 && choices > 0; turn++) {
            int chosen = random.nextInt(choices);
            if (chosen >= signs.length) {
                String variable = variables[chosen - signs.length];
                if (left == null || left.contains(variable)) {
                    return variable;
                }
            } else if (arities[chosen] <= room && depth < 12) {
                room -= arities[chosen];
                StringBuilder part = new StringBuilder(signs[chosen]);
                for (int i = 0; i < arities[chosen]; i++) {
                    part.append(i == 0 ? "(" : ",").append(part(left, depth + 1));
                }
                return part.append(arities[chosen] > 0 ? ")" : "").toString();
            }
        }
        return signs.length > 0 && arities[0] == 0 ? signs[0] : variables.length > 0 ? variables[0] : "q";
    }

    private String spoilt(String text) {
        if (upTo(5) > 0 || text.isEmpty()) {
            return text;
        }
        StringBuilder other = new StringBuilder(text);
        int at = random.nextInt(text.length());
        String marks = "abwxyz();,= \n034Q" + (char) 200;
        char mark = marks.charAt(random.nextInt(marks.length()));
        switch (upTo(4)) {
            case 0:
                other.setCharAt(at, mark);
                break;
            case 1:
                other.deleteCharAt(at);
                break;
            case 2:
                other.insert(at, mark);
                break;
            case 3:
                other.setLength(at);
                break;
            default:
                other.insert(at, other.substring(at, Math.min(other.length(), at + 1 + upTo(12))));
                break;
        }
        return other.length() > 700 ? text : other.toString();
    }

    private int fed(String text) {
        int whole = (text.length() + 19) / 20;
        for (int i = 0; i < whole; i++) {
            int[] numbers = new int[5];
            for (int at = 0; at < 20; at++) {
                int place = i * 20 + at;
                numbers[at / 4] = numbers[at / 4] << 8 | (place < text.length() ? text.charAt(place) : 32);
            }
            same("feed", shelf.feed(numbers[0], numbers[1], numbers[2], numbers[3], numbers[4]),
                    model.feed(numbers[0], numbers[1], numbers[2], numbers[3], numbers[4]));
        }
        return text.length();
    }

    private void same(String call, int got, int want) {
        calls++;
        Due.due(name + ", call " + calls + ": " + call, got, want);
    }

    private static int ruled(TermShelf shelf, int rule, int what) {
        try {
            return shelf.rule(rule, what);
        } catch (IndexOutOfBoundsException e) {
            return 1001;
        } catch (NoSuchElementException e) {
            return 1002;
        }
    }

    private void look(int which) {
        if (which < 19) {
            lookFirst(which);
        } else {
            lookSecond(which);
        }
    }

    private void lookFirst(int which) {
        int one = anyRule();
        int other = anyRule();
        int how = near(2);
        int place = near(12);
        String args = "(" + one + ", " + other + ", " + how + ", " + place + ")";
        switch (which) {
            case 0:
                String named = String.valueOf((char) ('a' + upTo(25))) + (upTo(9) == 0 ? "a" : "");
                int letters = upTo(9) == 0 ? random.nextInt() : Due.letters(named);
                int what = near(1);
                same("named" + what + " " + letters, shelf.named(what, letters), model.named(what, letters));
                break;
            case 1:
                int of = near(4);
                same("rule" + one + " " + of, ruled(shelf, one, of), model.rule(one, of));
                break;
            case 2:
                same("code" + args, shelf.code(one, place, false), model.code(one, place, false));
                same("code right" + args, shelf.code(one, place, true), model.code(one, place, true));
                break;
            case 3:
                same("skip" + args, shelf.skip(one, place), model.skip(one, place));
                break;
            case 4:
                same("asked" + args, shelf.asked(place), model.asked(place));
                break;
            case 5:
                same("take" + args, shelf.take(one), model.take(one));
                break;
            case 6:
                same("put" + args, shelf.put(one), model.put(one));
                break;
            case 7:
                int any = near(3);
                same("fits " + any + args, shelf.fits(any, one), model.fits(any, one));
                break;
            case 8:
                int k = near(5);
                same("found " + k + args, shelf.found(how, k), model.found(how, k));
                break;
            case 9:
                int asked = near(2);
                same("finding " + asked + args, shelf.finding(how, asked), model.finding(how, asked));
                break;
            case 10:
                int variable = near(3);
                int at = near(3);
                same("filled " + variable + " " + at + args, shelf.filled(one, variable, at),
                        model.filled(one, variable, at));
                break;
            case 11:
                int far = upTo(3) == 0 ? near(70) : place;
                same("meeting " + far + args, shelf.meeting(one, far), model.meeting(one, far));
                break;
            case 12:
                same("above" + args, shelf.above(one), model.above(one));
                break;
            case 13:
                same("shadowed", shelf.shadowed(), model.shadowed());
                break;
            case 14:
                same("joined" + args, shelf.joined(one, other, place), model.joined(one, other, place));
                break;
            case 15:
                same("overlaps" + args, shelf.overlaps(one, other), model.overlaps(one, other));
                break;
            case 16:
                same("shared" + args, shelf.shared(one, other), model.shared(one, other));
                break;
            case 17:
                int deep = near(30);
                same("critical " + deep + args, shelf.critical(one, other, place, deep),
                        model.critical(one, other, place, deep));
                break;
            default:
                same("criticals", shelf.criticals(), model.criticals());
                break;
        }
    }

    private void lookSecond(int which) {
        int one = anyRule();
        int other = anyRule();
        int how = near(2);
        int place = near(12);
        int what = near(1);
        String args = "(" + one + ", " + other + ", " + how + ", " + place + ", " + what + ")";
        switch (which) {
            case 19:
                same("depth" + args, shelf.depth(one), model.depth(one));
                break;
            case 20:
                same("specific" + args, shelf.specific(how), model.specific(how));
                break;
            case 21:
                int k = near(8);
                same("branch " + k + args, shelf.branch(place, k), model.branch(place, k));
                break;
            case 22:
                same("tops", shelf.tops(), model.tops());
                break;
            case 23:
                same("beside" + args, shelf.beside(one, other, what), model.beside(one, other, what));
                break;
            case 24:
                same("steps" + args, shelf.steps(how), model.steps(how));
                break;
            case 25:
                int far = near(60);
                same("normal " + far, shelf.normal(far), model.normal(far));
                same("normal" + args, shelf.normal(place), model.normal(place));
                break;
            case 26:
                same("apart" + args, shelf.apart(what), model.apart(what));
                break;
            case 27:
                same("width" + args, shelf.width(place), model.width(place));
                break;
            case 28:
                int at = near(16);
                same("order " + at, shelf.order(at), model.order(at));
                break;
            case 29:
                int seed = upTo(1) == 0 ? near(1000) : random.nextInt();
                same("chance " + seed + args, shelf.chance(seed, how), model.chance(seed, how));
                break;
            case 30:
            case 31:
            case 32:
                int way = near(4);
                int i = way == 2 || upTo(9) == 0 ? one : 0;
                same("tried " + way + " " + i + args, shelf.tried(way, how, i), model.tried(way, how, i));
                break;
            case 33:
                same("undo", shelf.undo(), model.undo());
                break;
            case 34:
                if (upTo(2) == 0) {
                    same("keep", shelf.keep(), model.keep());
                }
                break;
            case 35:
                if (upTo(3) == 0) {
                    same("back", shelf.back(), model.back());
                }
                break;
            default:
                int counted = near(10);
                same("count " + counted, shelf.count(counted), model.count(counted));
                break;
        }
    }
}
