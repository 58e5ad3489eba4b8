import java.util.ArrayDeque;
import java.util.ArrayList;
import java.util.Arrays;
import java.util.Collections;
import java.util.Deque;
import java.util.HashMap;
import java.util.HashSet;
import java.util.List;
import java.util.Map;
import java.util.Set;
import java.util.TreeMap;
import java.util.TreeSet;

/** The document once more, by terms as trees, substitutions and a tree of nodes, slow and plain. */
final class Model {
    static final int NONE = -1;
    static final int MISSING = -2;

    static final class T {
        final int code;
        final List<T> parts = new ArrayList<>();

        T(int code) {
            this.code = code;
        }

        boolean isVariable() {
            return code >= 100;
        }

        void codesInto(List<Integer> row) {
            row.add(code);
            for (T part : parts) {
                part.codesInto(row);
            }
        }

        List<Integer> codes() {
            List<Integer> row = new ArrayList<>();
            codesInto(row);
            return row;
        }

        void placesInto(List<T> row) {
            row.add(this);
            for (T part : parts) {
                part.placesInto(row);
            }
        }

        List<T> places() {
            List<T> row = new ArrayList<>();
            placesInto(row);
            return row;
        }

        boolean same(T other) {
            return codes().equals(other.codes());
        }

        int depth() {
            int deepest = 0;
            for (T part : parts) {
                deepest = Math.max(deepest, part.depth());
            }
            return deepest + 1;
        }
    }

    static final class Rule {
        String name;
        T term;
        T right;
        boolean in = true;

        List<Integer> path() {
            List<Integer> path = new ArrayList<>();
            for (int code : term.codes()) {
                path.add(Math.min(code, 100));
            }
            return path;
        }
    }

    /** A node of the tree; star's number below is put ahead of all signs. */
    static final class Node {
        final TreeMap<Integer, Node> below = new TreeMap<>();
        final List<Integer> rules = new ArrayList<>();

        static int key(int code) {
            return code == 100 ? -1 : code;
        }
    }

    static final class Fault extends RuntimeException {
        private static final long serialVersionUID = 1L;
        final int number;
        final int place;

        Fault(int number, int place) {
            super(null, null, false, false);
            this.number = number;
            this.place = place;
        }
    }

    static final class Told {
        final List<String> signs = new ArrayList<>();
        final List<Integer> arities = new ArrayList<>();
        final List<String> variables = new ArrayList<>();
        final List<Rule> rules = new ArrayList<>();
        int lines = 0;
    }

    /** A parser by recursion, straight on the text. */
    static final class Parser {
        final String text;
        int at = 0;
        int start = 0;
        String token = "";
        final Told told;
        int filled = 0;

        Parser(String text, Told told) {
            this.text = text;
            this.told = told;
            next();
        }

        void next() {
            while (at < text.length() && (text.charAt(at) == ' ' || text.charAt(at) == '\n')) {
                at++;
            }
            start = at;
            if (at < text.length()) {
                String rest = text.substring(at);
                int word = rest.length() - rest.replaceFirst("^[a-z]+", "").length();
                int digits = rest.length() - rest.replaceFirst("^[0-9]+", "").length();
                at += Math.max(1, Math.max(word, digits));
            }
            token = text.substring(start, at);
        }

        boolean isName() {
            return token.matches("[a-z]{1,6}") && !token.matches("sign|var|rule");
        }

        void want(boolean holds, int number) {
            if (!holds) {
                throw new Fault(number, start);
            }
        }

        void pass(String mark) {
            want(token.equals(mark), 1);
            next();
        }

        void lines() {
            while (!token.isEmpty()) {
                String kind = token;
                want(kind.matches("sign|var|rule"), 1);
                want(!kind.equals("sign") || told.signs.size() < 8, 2);
                want(!kind.equals("var") || told.variables.size() < 4, 2);
                want(!kind.equals("rule") || told.rules.size() < 16, 2);
                next();
                want(isName(), 1);
                String name = token;
                if (kind.equals("rule")) {
                    for (Rule rule : told.rules) {
                        want(!rule.name.equals(name), 3);
                    }
                    next();
                    rule(name);
                } else {
                    want(!told.signs.contains(name) && !told.variables.contains(name), 3);
                    next();
                    if (kind.equals("sign")) {
                        want(token.matches("[0-9]+"), 1);
                        want(token.matches("0*[0-3]"), 2);
                        told.arities.add(token.charAt(token.length() - 1) - '0');
                        told.signs.add(name);
                        next();
                    } else {
                        told.variables.add(name);
                    }
                }
                pass(";");
                told.lines++;
            }
        }

        void rule(String name) {
            Rule rule = new Rule();
            rule.name = name;
            filled = 0;
            rule.term = term(null);
            if (token.equals("=")) {
                next();
                filled = 0;
                rule.right = term(rule.term);
            }
            told.rules.add(rule);
        }

        T alone() {
            T term = term(null);
            want(token.isEmpty(), 1);
            return term;
        }

        T term(T left) {
            want(isName(), 1);
            want(filled < 12, 2);
            int sign = told.signs.indexOf(token);
            int variable = told.variables.indexOf(token);
            want(sign >= 0 || variable >= 0, 4);
            want(left == null || variable < 0 || left.codes().contains(100 + variable), 5);
            filled++;
            next();
            T term = new T(sign >= 0 ? sign : 100 + variable);
            int arity = sign >= 0 ? told.arities.get(sign) : 0;
            for (int i = 0; i < arity; i++) {
                pass(i == 0 ? "(" : ",");
                term.parts.add(term(left));
            }
            if (arity > 0) {
                pass(")");
            }
            return term;
        }
    }

    private String tape = "";
    private Told told = new Told();
    private T query = null;
    private int fault = 0;
    private int faultPlace = NONE;
    private final Deque<Integer> turns = new ArrayDeque<>();
    private List<Boolean> image = null;

    // ---- putting terms for variables

    static T put(T term, Map<Integer, T> puts) {
        if (term.isVariable()) {
            return puts.containsKey(term.code) ? put(puts.get(term.code), puts) : term;
        }
        T copy = new T(term.code);
        for (T part : term.parts) {
            copy.parts.add(put(part, puts));
        }
        return copy;
    }

    /** All variables become others, by as much more. */
    static T moved(T term, int by) {
        T copy = new T(term.isVariable() ? term.code + by : term.code);
        for (T part : term.parts) {
            copy.parts.add(moved(part, by));
        }
        return copy;
    }

    static boolean general(T general, T special, Map<Integer, T> puts) {
        if (general.isVariable()) {
            T old = puts.putIfAbsent(general.code, special);
            return old == null || old.same(special);
        }
        if (general.code != special.code) {
            return false;
        }
        for (int i = 0; i < general.parts.size(); i++) {
            if (!general(general.parts.get(i), special.parts.get(i), puts)) {
                return false;
            }
        }
        return true;
    }

    static boolean isAbove(T general, T special) {
        return general(general, special, new HashMap<>());
    }

    static boolean unify(T one, T other, Map<Integer, T> puts) {
        T left = put(one, puts);
        T right = put(other, puts);
        if (left.isVariable() || right.isVariable()) {
            T variable = left.isVariable() ? left : right;
            T value = left.isVariable() ? right : left;
            if (variable.same(value)) {
                return true;
            }
            if (value.codes().contains(variable.code)) {
                return false;
            }
            puts.put(variable.code, value);
            return true;
        }
        if (left.code != right.code) {
            return false;
        }
        for (int i = 0; i < left.parts.size(); i++) {
            if (!unify(left.parts.get(i), right.parts.get(i), puts)) {
                return false;
            }
        }
        return true;
    }

    static List<Integer> shape(T term) {
        List<Integer> seen = new ArrayList<>();
        List<Integer> row = new ArrayList<>();
        for (int code : term.codes()) {
            if (code >= 100 && !seen.contains(code)) {
                seen.add(code);
            }
            row.add(code >= 100 ? 100 + seen.indexOf(code) : code);
        }
        return row;
    }

    static boolean fit(int how, T term, T query) {
        switch (how) {
            case 0:
                return isAbove(term, query);
            case 1:
                return isAbove(query, term);
            case 2:
                return unify(term, moved(query, 1000), new HashMap<>());
            default:
                return isAbove(term, query) && isAbove(query, term);
        }
    }

    // ---- the tree

    private Node tree() {
        Node root = new Node();
        for (int i = 0; i < told.rules.size(); i++) {
            Rule rule = told.rules.get(i);
            if (rule.in) {
                Node node = root;
                for (int code : rule.path()) {
                    node = node.below.computeIfAbsent(Node.key(code), key -> new Node());
                }
                node.rules.add(i);
            }
        }
        return root;
    }

    private static int nodes(Node node) {
        int all = 0;
        for (Node below : node.below.values()) {
            all += 1 + nodes(below);
        }
        return all;
    }

    private static int leaves(Node node) {
        int all = node.rules.isEmpty() ? 0 : 1;
        for (Node below : node.below.values()) {
            all += leaves(below);
        }
        return all;
    }

    private static void rulesInto(Node node, List<Integer> row) {
        row.addAll(node.rules);
        for (Node below : node.below.values()) {
            rulesInto(below, row);
        }
    }

    private static void codesOfLength(Node node, int length, List<Integer> row) {
        for (Map.Entry<Integer, Node> below : node.below.entrySet()) {
            if (length == 1) {
                row.add(below.getKey() == -1 ? 100 : below.getKey());
            } else {
                codesOfLength(below.getValue(), length - 1, row);
            }
        }
    }

    private int arity(int code) {
        return code >= 0 && code < 100 ? told.arities.get(code) : 0;
    }

    private void ends(Node node, int open, List<Node> row) {
        if (open == 0) {
            row.add(node);
            return;
        }
        for (Map.Entry<Integer, Node> below : node.below.entrySet()) {
            ends(below.getValue(), open - 1 + arity(below.getKey()), row);
        }
    }

    private int visited;
    private final List<Integer> candidates = new ArrayList<>();

    private void find(int how) {
        visited = 0;
        candidates.clear();
        come(tree(), 0, how, query.places());
    }

    private void come(Node node, int place, int how, List<T> places) {
        if (place == places.size()) {
            candidates.addAll(node.rules);
            return;
        }
        T at = places.get(place);
        Node star = node.below.get(-1);
        if (at.isVariable() && how != 0) {
            List<Node> ends = new ArrayList<>();
            ends(node, 1, ends);
            for (Node end : ends) {
                visited++;
                come(end, place + 1, how, places);
            }
            return;
        }
        if (star != null && (at.isVariable() || how != 1)) {
            visited++;
            come(star, place + at.places().size(), how, places);
        }
        Node same = at.isVariable() ? null : node.below.get(at.code);
        if (same != null) {
            visited++;
            come(same, place + 1, how, places);
        }
    }

    private List<Integer> foundList(int how) {
        find(how);
        List<Integer> row = new ArrayList<>();
        List<Integer> order = new ArrayList<>();
        rulesInto(tree(), order);
        for (int rule : order) {
            if (candidates.contains(rule) && fit(how, told.rules.get(rule).term, query)) {
                row.add(rule);
            }
        }
        return row;
    }

    // ---- the calls

    private boolean has(int rule) {
        return rule >= 0 && rule < told.rules.size();
    }

    private T term(int rule) {
        return told.rules.get(rule).term;
    }

    private boolean in(int rule) {
        return told.rules.get(rule).in;
    }

    private static boolean way(int how) {
        return how >= 0 && how <= 2;
    }

    private static int nth(List<Integer> row, int k) {
        return k < row.size() ? row.get(k) : MISSING;
    }

    int feed(int a, int b, int c, int d, int e) {
        if (tape.length() + 20 > 700) {
            return NONE;
        }
        StringBuilder more = new StringBuilder(tape);
        for (int number : new int[] {a, b, c, d, e}) {
            for (int i = 24; i >= 0; i -= 8) {
                more.append((char) (number >> i & 255));
            }
        }
        tape = more.toString();
        return tape.length();
    }

    private String cut(int n) {
        String text = tape.substring(0, n);
        tape = "";
        fault = 0;
        faultPlace = NONE;
        return text;
    }

    int text(int n) {
        if (n < 0 || n > tape.length()) {
            return MISSING;
        }
        Told fresh = new Told();
        try {
            new Parser(cut(n), fresh).lines();
        } catch (Fault found) {
            fault = found.number;
            faultPlace = found.place;
            return NONE;
        }
        told = fresh;
        query = null;
        image = null;
        turns.clear();
        return told.lines;
    }

    int query(int n) {
        if (n < 0 || n > tape.length()) {
            return MISSING;
        }
        try {
            query = new Parser(cut(n), told).alone();
        } catch (Fault found) {
            fault = found.number;
            faultPlace = found.place;
            return NONE;
        }
        return query.codes().size();
    }

    int fault(int what) {
        return what == 0 ? fault : what == 1 ? faultPlace : NONE;
    }

    int named(int what, int letters) {
        for (int i = 0; i < told.signs.size() && what == 0; i++) {
            if (Due.letters(told.signs.get(i)) == letters) {
                return i;
            }
        }
        for (int i = 0; i < told.variables.size() && what == 0; i++) {
            if (Due.letters(told.variables.get(i)) == letters) {
                return 100 + i;
            }
        }
        for (int i = 0; i < told.rules.size() && what == 1; i++) {
            if (Due.letters(told.rules.get(i).name) == letters) {
                return i;
            }
        }
        return NONE;
    }

    private static Set<Integer> variables(T term) {
        Set<Integer> all = new HashSet<>();
        for (int code : term.codes()) {
            if (code >= 100) {
                all.add(code);
            }
        }
        return all;
    }

    private static boolean repeats(T term) {
        int places = 0;
        for (int code : term.codes()) {
            places += code >= 100 ? 1 : 0;
        }
        return places > variables(term).size();
    }

    /** 1001 and 1002 for the two exceptions. */
    int rule(int rule, int what) {
        if (!has(rule)) {
            return 1001;
        }
        switch (what) {
            case 0:
                return term(rule).codes().size();
            case 1:
                return told.rules.get(rule).right == null ? 0 : told.rules.get(rule).right.codes().size();
            case 2:
                return variables(term(rule)).size();
            case 3:
                return in(rule) ? 1 : 0;
            case 4:
                return repeats(term(rule)) ? 1 : 0;
            default:
                return 1002;
        }
    }

    int code(int rule, int place, boolean right) {
        if (!has(rule) || place < 0) {
            return NONE;
        }
        T term = right ? told.rules.get(rule).right : term(rule);
        return term == null ? MISSING : nth(term.codes(), place);
    }

    int skip(int rule, int place) {
        if (!has(rule) || place < 0) {
            return NONE;
        }
        List<T> places = term(rule).places();
        return place < places.size() ? place + places.get(place).places().size() : MISSING;
    }

    int asked(int place) {
        if (place < 0) {
            return NONE;
        }
        return query == null ? MISSING : nth(query.codes(), place);
    }

    private int turn(int rule, boolean wanted) {
        if (!has(rule)) {
            return NONE;
        }
        if (in(rule) == wanted) {
            return MISSING;
        }
        int ahead = nodes(tree());
        told.rules.get(rule).in = wanted;
        turns.addLast(rule);
        if (turns.size() > 20) {
            turns.removeFirst();
        }
        int now = nodes(tree());
        return wanted ? now - ahead : ahead - now;
    }

    int take(int rule) {
        return turn(rule, false);
    }

    int put(int rule) {
        return turn(rule, true);
    }

    int fits(int how, int rule) {
        if (how < 0 || how > 3 || !has(rule) || query == null) {
            return NONE;
        }
        return !in(rule) ? MISSING : fit(how, term(rule), query) ? 1 : 0;
    }

    int found(int how, int k) {
        return !way(how) || k < 0 || query == null ? NONE : nth(foundList(how), k);
    }

    int finding(int how, int what) {
        if (!way(how) || what < 0 || what > 2 || query == null) {
            return NONE;
        }
        List<Integer> found = foundList(how);
        return what == 0 ? found.size() : what == 1 ? candidates.size() : visited;
    }

    int filled(int rule, int variable, int k) {
        if (!has(rule) || variable < 0 || variable > 3 || k < 0 || query == null || !in(rule)) {
            return NONE;
        }
        Map<Integer, T> puts = new HashMap<>();
        if (!general(term(rule), query, puts) || !puts.containsKey(100 + variable)) {
            return MISSING;
        }
        return nth(puts.get(100 + variable).codes(), k);
    }

    int meeting(int rule, int k) {
        if (!has(rule) || k < 0 || query == null || !in(rule)) {
            return NONE;
        }
        return met(term(rule), term(rule), query, k);
    }

    private static int met(T whole, T part, T other, int k) {
        Map<Integer, T> puts = new HashMap<>();
        if (!unify(part, moved(other, 1000), puts)) {
            return MISSING;
        }
        List<Integer> shape = shape(put(whole, puts));
        return shape.size() > 60 ? MISSING : nth(shape, k);
    }

    int above(int rule) {
        if (!has(rule)) {
            return NONE;
        }
        int bits = 0;
        for (int i = 0; i < told.rules.size(); i++) {
            bits |= i != rule && isAbove(term(rule), term(i)) ? 1 << i : 0;
        }
        return bits;
    }

    int shadowed() {
        int bits = 0;
        for (int i = 0; i < told.rules.size(); i++) {
            for (int less = 0; less < i; less++) {
                bits |= in(i) && in(less) && isAbove(term(less), term(i)) ? 1 << i : 0;
            }
        }
        return bits;
    }

    private static T join(T one, T other, Map<String, T> pairs) {
        if (!one.isVariable() && one.code == other.code) {
            T term = new T(one.code);
            for (int i = 0; i < one.parts.size(); i++) {
                term.parts.add(join(one.parts.get(i), other.parts.get(i), pairs));
            }
            return term;
        }
        String pair = one.codes() + " " + other.codes();
        pairs.putIfAbsent(pair, new T(100 + pairs.size()));
        return pairs.get(pair);
    }

    int joined(int one, int other, int k) {
        if (!has(one) || !has(other) || k < 0) {
            return NONE;
        }
        return nth(shape(join(term(one), term(other), new HashMap<>())), k);
    }

    private boolean overlapsAt(int one, int other, int place) {
        T part = term(one).places().get(place);
        return !part.isVariable() && (one != other || place != 0)
                && unify(part, moved(term(other), 1000), new HashMap<>());
    }

    int overlaps(int one, int other) {
        if (!has(one) || !has(other)) {
            return NONE;
        }
        int bits = 0;
        for (int place = 0; place < term(one).places().size(); place++) {
            bits |= overlapsAt(one, other, place) ? 1 << place : 0;
        }
        return bits;
    }

    int shared(int one, int other) {
        if (!has(one) || !has(other)) {
            return NONE;
        }
        List<Integer> path = told.rules.get(one).path();
        List<Integer> otherPath = told.rules.get(other).path();
        int alike = 0;
        while (alike < path.size() && alike < otherPath.size()
                && path.get(alike).equals(otherPath.get(alike))) {
            alike++;
        }
        return alike;
    }

    int critical(int one, int other, int place, int k) {
        if (!has(one) || !has(other) || k < 0 || place < 0 || place >= term(one).places().size()) {
            return NONE;
        }
        if (!overlapsAt(one, other, place)) {
            return MISSING;
        }
        return met(term(one), term(one).places().get(place), term(other), k);
    }

    int criticals() {
        int all = 0;
        for (int one = 0; one < told.rules.size(); one++) {
            for (int other = 0; other < told.rules.size(); other++) {
                all += in(one) && in(other) ? Integer.bitCount(overlaps(one, other)) : 0;
            }
        }
        return all;
    }

    int depth(int rule) {
        return has(rule) ? term(rule).depth() : NONE;
    }

    int specific(int how) {
        if (!way(how) || query == null) {
            return NONE;
        }
        TreeSet<Integer> found = new TreeSet<>(foundList(how));
        for (int rule : found) {
            boolean isAboveSome = false;
            for (int other : found) {
                isAboveSome |= other != rule && isAbove(term(rule), term(other));
            }
            if (!isAboveSome) {
                return rule;
            }
        }
        return found.isEmpty() ? MISSING : found.first();
    }

    int branch(int length, int k) {
        if (length < 1 || length > 12 || k < 0) {
            return NONE;
        }
        List<Integer> row = new ArrayList<>();
        codesOfLength(tree(), length, row);
        return nth(row, k);
    }

    int tops() {
        int bits = 0;
        for (int i = 0; i < told.rules.size(); i++) {
            boolean top = in(i);
            for (int other = 0; other < told.rules.size(); other++) {
                boolean isVariant = isAbove(term(other), term(i)) && isAbove(term(i), term(other));
                top &= other == i || !in(other) || !isAbove(term(other), term(i)) || isVariant;
            }
            bits |= top ? 1 << i : 0;
        }
        return bits;
    }

    int beside(int one, int other, int what) {
        if (!has(one) || !has(other) || what < 0 || what > 1) {
            return NONE;
        }
        return fit(what == 0 ? 3 : 2, term(one), term(other)) ? 1 : 0;
    }

    private int done;
    private int first;

    private T normalForm() {
        done = 0;
        first = MISSING;
        T now = query;
        while (done < 20) {
            T next = step(now);
            if (next == null || next.codes().size() > 60) {
                break;
            }
            now = next;
            if (done == 0) {
                first = usedRule;
            }
            done++;
        }
        return now;
    }

    private int usedRule;

    private T step(T now) {
        for (int i = 0; i < told.rules.size(); i++) {
            Rule rule = told.rules.get(i);
            Map<Integer, T> puts = new HashMap<>();
            if (rule.in && rule.right != null && general(rule.term, now, puts)) {
                usedRule = i;
                return putOnce(rule.right, puts);
            }
        }
        for (int i = 0; i < now.parts.size(); i++) {
            T part = step(now.parts.get(i));
            if (part != null) {
                T copy = new T(now.code);
                copy.parts.addAll(now.parts);
                copy.parts.set(i, part);
                return copy;
            }
        }
        return null;
    }

    private static T putOnce(T term, Map<Integer, T> puts) {
        if (term.isVariable()) {
            return puts.get(term.code);
        }
        T copy = new T(term.code);
        for (T part : term.parts) {
            copy.parts.add(putOnce(part, puts));
        }
        return copy;
    }

    int steps(int what) {
        if (what < 0 || what > 2 || query == null) {
            return NONE;
        }
        T now = normalForm();
        return what == 0 ? done : what == 1 ? now.codes().size() : first;
    }

    int normal(int k) {
        return k < 0 || query == null ? NONE : nth(normalForm().codes(), k);
    }

    int apart(int what) {
        if (what < 0 || what > 1) {
            return NONE;
        }
        int bestPlace = 0;
        int least = Integer.MAX_VALUE;
        for (int place = 0; place < 12; place++) {
            Map<Integer, Integer> classes = new HashMap<>();
            for (Rule rule : told.rules) {
                if (rule.in) {
                    List<Integer> path = rule.path();
                    classes.merge(place < path.size() ? path.get(place) : 99, 1, Integer::sum);
                }
            }
            int largest = classes.isEmpty() ? 0 : Collections.max(classes.values());
            if (largest < least) {
                least = largest;
                bestPlace = place;
            }
        }
        return what == 0 ? bestPlace : least;
    }

    int width(int depth) {
        if (depth < 0 || depth > 11) {
            return NONE;
        }
        List<Integer> row = new ArrayList<>();
        codesOfLength(tree(), depth + 1, row);
        return row.size();
    }

    int order(int k) {
        if (k < 0) {
            return NONE;
        }
        List<Integer> row = new ArrayList<>();
        rulesInto(tree(), row);
        return nth(row, k);
    }

    private long last;
    private int filledPlaces;
    private int openPlaces;

    private T drawn() {
        filledPlaces = 0;
        openPlaces = 1;
        return told.signs.isEmpty() && told.variables.isEmpty() ? null : drawnPart();
    }

    private T drawnPart() {
        last = (last * 1103515245L + 12345L) % 2147483648L;
        int chosen = (int) (last / 65536 % (told.signs.size() + told.variables.size()));
        int code = chosen < told.signs.size() ? chosen : 100 + chosen - told.signs.size();
        if (filledPlaces + 1 + openPlaces - 1 + arity(code) > 12) {
            code = told.arities.indexOf(0);
            if (code < 0) {
                code = told.variables.isEmpty() ? NONE : 100;
            }
            if (code < 0) {
                return null;
            }
        }
        filledPlaces++;
        openPlaces += arity(code) - 1;
        T term = new T(code);
        for (int i = 0; i < arity(code); i++) {
            T part = drawnPart();
            if (part == null) {
                return null;
            }
            term.parts.add(part);
        }
        return term;
    }

    int chance(int seed, int how) {
        if (seed < 0 || !way(how)) {
            return NONE;
        }
        T kept = query;
        last = seed;
        int hits = 0;
        for (int i = 0; i < 10; i++) {
            query = drawn();
            if (query == null) {
                query = kept;
                return MISSING;
            }
            hits += foundList(how).isEmpty() ? 0 : 1;
        }
        query = kept;
        return hits;
    }

    int draw(int seed) {
        if (seed < 0) {
            return NONE;
        }
        last = seed;
        T term = drawn();
        if (term == null) {
            return MISSING;
        }
        query = term;
        return query.codes().size();
    }

    private int fresh;

    private T loose(T term) {
        T copy = new T(term.isVariable() ? 200 + fresh++ : term.code);
        for (T part : term.parts) {
            copy.parts.add(loose(part));
        }
        return copy;
    }

    private T asOne(T term) {
        T copy = new T(term.isVariable() ? 100 : term.code);
        for (T part : term.parts) {
            copy.parts.add(asOne(part));
        }
        return copy;
    }

    int tried(int what, int how, int i) {
        if (what < 0 || what > 4 || !way(how) || (what == 2 ? !has(i) : i != 0)) {
            return NONE;
        }
        if (query == null) {
            return MISSING;
        }
        fresh = 0;
        T asking = what == 0 ? loose(query) : what == 4 ? asOne(query) : query;
        int fitting = 0;
        for (int rule = 0; rule < told.rules.size(); rule++) {
            T term = what < 2 ? loose(term(rule)) : term(rule);
            boolean looked = (in(rule) || what == 3) && (what != 2 || rule != i);
            fitting += looked && fit(how, term, asking) ? 1 : 0;
        }
        return fitting;
    }

    int undo() {
        if (turns.isEmpty()) {
            return NONE;
        }
        Rule rule = told.rules.get(turns.removeLast());
        rule.in = !rule.in;
        return turns.size();
    }

    private int ins() {
        int all = 0;
        for (Rule rule : told.rules) {
            all += rule.in ? 1 : 0;
        }
        return all;
    }

    int keep() {
        image = new ArrayList<>();
        for (Rule rule : told.rules) {
            image.add(rule.in);
        }
        return ins();
    }

    int back() {
        if (image == null) {
            return NONE;
        }
        for (int i = 0; i < told.rules.size(); i++) {
            told.rules.get(i).in = image.get(i);
        }
        turns.clear();
        return ins();
    }

    int count(int what) {
        int places = 0;
        int longest = 0;
        int repeating = 0;
        for (Rule rule : told.rules) {
            places += rule.path().size();
            longest = rule.in ? Math.max(longest, rule.path().size()) : longest;
            repeating += rule.in && repeats(rule.term) ? 1 : 0;
        }
        int[] counts = {told.signs.size(), told.variables.size(), told.rules.size(), ins(),
            nodes(tree()), leaves(tree()), places, query == null ? 0 : query.codes().size(),
            longest, repeating, turns.size()};
        return what < 0 || what >= counts.length ? NONE : counts[what];
    }

    @Override
    public String toString() {
        return Arrays.toString(told.rules.stream().map(rule -> rule.name + rule.term.codes()).toArray());
    }
}
