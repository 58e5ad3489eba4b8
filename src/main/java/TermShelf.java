import java.util.NoSuchElementException;

/** A shelf of rules found by their terms; DOC.md tells what each call answers. */
public final class TermShelf {
    public static final int NONE = -1;

    private static final int MISSING = -2;
    private static final int GENERAL = 0;
    private static final int INSTANCE = 1;
    private static final int UNIFIED = 2;
    private static final int VARIANT = 3;

    /** The CODE of the first VARIABLE, and of every one in a PATH. */
    private static final int STAR = 100;
    private static final int PATH_END = 99;
    private static final int MOST_SIGNS = 8;
    private static final int MOST_VARIABLES = 4;
    private static final int MOST_RULES = 16;
    private static final int MOST_ARGUMENTS = 3;
    private static final int MOST_PLACES = 12;
    private static final int MOST_LONG_PLACES = 60;
    private static final int MOST_STEPS = 20;
    private static final int MOST_UNDONE = 20;
    private static final int MOST_TAPE = 700;
    private static final int NUMBER_BYTES = 4;
    private static final int FED_BYTES = 20;
    private static final int DRAWS = 10;
    private static final int ALL_RULES = (1 << MOST_RULES) - 1;

    private final int[] tape = new int[MOST_TAPE];
    private int taped = 0;
    private Book book = new Book();
    private Book spareBook = new Book();
    private Term asking = new Term(MOST_PLACES);
    private Term spareTerm = new Term(MOST_PLACES);
    private final Term looseTerm = new Term(MOST_PLACES);
    private final Term looseAsking = new Term(MOST_PLACES);
    private final Reader reader = new Reader();
    private final Standing standing = new Standing();
    private final Tree tree = new Tree();
    private final Matcher matcher = new Matcher();
    private final Unifier unifier = new Unifier();
    private final Joiner joiner = new Joiner();
    private final Rewriter rewriter = new Rewriter();
    private final Drawer drawer = new Drawer();

    public TermShelf() {
    }

    public int feed(int a, int b, int c, int d, int e) {
        if (taped > MOST_TAPE - FED_BYTES) {
            return NONE;
        }
        tapeNumber(a);
        tapeNumber(b);
        tapeNumber(c);
        tapeNumber(d);
        tapeNumber(e);
        return taped;
    }

    public int text(int n) {
        if (n < 0 || n > taped) {
            return MISSING;
        }
        taped = 0;
        int lines = reader.readLines(tape, n, spareBook);
        if (lines < 0) {
            return NONE;
        }
        Book old = book;
        book = spareBook;
        spareBook = old;
        asking.clear();
        standing.startAnew(book.ruleCount);
        tree.plant(book, standing);
        return lines;
    }

    public int query(int n) {
        if (n < 0 || n > taped) {
            return MISSING;
        }
        taped = 0;
        if (!reader.readAlone(tape, n, book, spareTerm)) {
            return NONE;
        }
        askSpareTerm();
        return asking.size;
    }

    public int fault(int what) {
        if (what == 0) {
            return reader.fault;
        }
        return what == 1 ? reader.faultPlace : NONE;
    }

    public int named(int what, int letters) {
        if (what == 0) {
            return book.codeNamed(letters);
        }
        return what == 1 ? book.ruleNamed(letters) : NONE;
    }

    public int rule(int rule, int what) throws IndexOutOfBoundsException, NoSuchElementException {
        if (!book.hasRule(rule)) {
            throw new IndexOutOfBoundsException("no such rule");
        }
        Term term = book.termOf(rule);
        switch (what) {
            case 0:
                return term.size;
            case 1:
                return book.rightOf(rule).size;
            case 2:
                return term.variables();
            case 3:
                return standing.isIn(rule) ? 1 : 0;
            case 4:
                return term.repeatsVariable() ? 1 : 0;
            default:
                throw new NoSuchElementException("no such what");
        }
    }

    public int code(int rule, int place, boolean right) {
        if (!book.hasRule(rule) || place < 0) {
            return NONE;
        }
        Term term = right ? book.rightOf(rule) : book.termOf(rule);
        return term.codeOrMissing(place);
    }

    public int skip(int rule, int place) {
        if (!book.hasRule(rule) || place < 0) {
            return NONE;
        }
        Term term = book.termOf(rule);
        return place < term.size ? term.behind(place) : MISSING;
    }

    public int asked(int place) {
        return place < 0 ? NONE : asking.codeOrMissing(place);
    }

    public int take(int rule) {
        if (!book.hasRule(rule)) {
            return NONE;
        }
        return standing.isIn(rule) ? turnedNodes(rule) : MISSING;
    }

    public int put(int rule) {
        if (!book.hasRule(rule)) {
            return NONE;
        }
        return standing.isIn(rule) ? MISSING : turnedNodes(rule);
    }

    public int fits(int how, int rule) {
        if (how < GENERAL || how > VARIANT || !book.hasRule(rule) || asking.size == 0) {
            return NONE;
        }
        if (!standing.isIn(rule)) {
            return MISSING;
        }
        return fitsTerms(how, book.termOf(rule), asking) ? 1 : 0;
    }

    public int found(int how, int k) {
        if (!isWay(how) || k < 0 || asking.size == 0) {
            return NONE;
        }
        int ahead = 0;
        for (int i = 0; i < tree.size; i++) {
            int rule = tree.ruleAt(i);
            if (fitsTerms(how, book.termOf(rule), asking)) {
                if (ahead == k) {
                    return rule;
                }
                ahead++;
            }
        }
        return MISSING;
    }

    public int finding(int how, int what) {
        if (!isWay(how) || what < 0 || what > 2 || asking.size == 0) {
            return NONE;
        }
        if (what == 0) {
            return Integer.bitCount(fitBits(how, asking, standing.bits));
        }
        tree.walk(how, asking);
        return what == 1 ? tree.candidates : tree.visited;
    }

    public int filled(int rule, int variable, int k) {
        if (variable < 0 || variable >= MOST_VARIABLES || k < 0 || !isAskedRule(rule)) {
            return NONE;
        }
        if (!matcher.matches(book.termOf(rule), asking, 0)) {
            return MISSING;
        }
        int start = matcher.startOf(variable);
        if (start < 0 || k >= asking.behind(start) - start) {
            return MISSING;
        }
        return asking.codeOrMissing(start + k);
    }

    public int meeting(int rule, int k) {
        if (k < 0 || !isAskedRule(rule)) {
            return NONE;
        }
        if (!unifier.unifies(book.termOf(rule), 0, asking)) {
            return MISSING;
        }
        return unifier.unifiedShape().codeOrMissing(k);
    }

    public int above(int rule) {
        return book.hasRule(rule) ? aboveBits(rule) : NONE;
    }

    public int shadowed() {
        int bits = 0;
        for (int rule = 0; rule < book.ruleCount; rule++) {
            if (standing.isIn(rule)) {
                bits |= aboveBits(rule) & bitsBehind(rule);
            }
        }
        return bits & standing.bits;
    }

    public int joined(int one, int other, int k) {
        if (!book.hasRule(one) || !book.hasRule(other) || k < 0) {
            return NONE;
        }
        return joiner.joinedShape(book.termOf(one), book.termOf(other)).codeOrMissing(k);
    }

    public int overlaps(int one, int other) {
        return book.hasRule(one) && book.hasRule(other) ? overlapBits(one, other) : NONE;
    }

    public int shared(int one, int other) {
        if (!book.hasRule(one) || !book.hasRule(other)) {
            return NONE;
        }
        return book.termOf(one).sharedPath(book.termOf(other));
    }

    public int critical(int one, int other, int place, int k) {
        if (!book.hasRule(one) || !book.hasRule(other) || k < 0) {
            return NONE;
        }
        if (place < 0 || place >= book.termOf(one).size) {
            return NONE;
        }
        if (!overlapsAt(one, other, place)) {
            return MISSING;
        }
        return unifier.unifiedShape().codeOrMissing(k);
    }

    public int criticals() {
        int all = 0;
        for (int one = 0; one < book.ruleCount; one++) {
            for (int other = 0; other < book.ruleCount; other++) {
                if (standing.isIn(one) && standing.isIn(other)) {
                    all += Integer.bitCount(overlapBits(one, other));
                }
            }
        }
        return all;
    }

    public int depth(int rule) {
        return book.hasRule(rule) ? book.termOf(rule).levels() : NONE;
    }

    public int specific(int how) {
        if (!isWay(how) || asking.size == 0) {
            return NONE;
        }
        int bits = fitBits(how, asking, standing.bits);
        if (bits == 0) {
            return MISSING;
        }
        for (int rule = 0; rule < book.ruleCount; rule++) {
            if (hasBit(bits, rule) && (aboveBits(rule) & bits) == 0) {
                return rule;
            }
        }
        return Integer.numberOfTrailingZeros(bits);
    }

    public int branch(int length, int k) {
        if (length < 1 || length > MOST_PLACES || k < 0) {
            return NONE;
        }
        return tree.branchCode(length, k);
    }

    public int tops() {
        int bits = 0;
        for (int rule = 0; rule < book.ruleCount; rule++) {
            if (standing.isIn(rule) && isTop(rule)) {
                bits |= 1 << rule;
            }
        }
        return bits;
    }

    public int beside(int one, int other, int what) {
        if (!book.hasRule(one) || !book.hasRule(other) || what < 0 || what > 1) {
            return NONE;
        }
        int how = what == 0 ? VARIANT : UNIFIED;
        return fitsTerms(how, book.termOf(one), book.termOf(other)) ? 1 : 0;
    }

    public int steps(int what) {
        if (what < 0 || what > 2 || asking.size == 0) {
            return NONE;
        }
        rewriter.rewrite(book, standing, asking);
        if (what == 0) {
            return rewriter.done;
        }
        return what == 1 ? rewriter.now.size : rewriter.firstRule;
    }

    public int normal(int k) {
        if (k < 0 || asking.size == 0) {
            return NONE;
        }
        rewriter.rewrite(book, standing, asking);
        return rewriter.now.codeOrMissing(k);
    }

    public int apart(int what) {
        if (what < 0 || what > 1) {
            return NONE;
        }
        int bestPlace = 0;
        int least = tree.largestClass(0);
        for (int place = 1; place < MOST_PLACES; place++) {
            int largest = tree.largestClass(place);
            if (largest < least) {
                least = largest;
                bestPlace = place;
            }
        }
        return what == 0 ? bestPlace : least;
    }

    public int width(int depth) {
        return depth >= 0 && depth < MOST_PLACES ? tree.nodesOfLength(depth + 1) : NONE;
    }

    public int order(int k) {
        if (k < 0) {
            return NONE;
        }
        return k < tree.size ? tree.ruleAt(k) : MISSING;
    }

    public int chance(int seed, int how) {
        if (seed < 0 || !isWay(how)) {
            return NONE;
        }
        drawer.seed(seed);
        int hits = 0;
        for (int turn = 0; turn < DRAWS; turn++) {
            if (!drawer.drawTerm(book, spareTerm)) {
                return MISSING;
            }
            if (fitBits(how, spareTerm, standing.bits) != 0) {
                hits++;
            }
        }
        return hits;
    }

    public int draw(int seed) {
        if (seed < 0) {
            return NONE;
        }
        drawer.seed(seed);
        if (!drawer.drawTerm(book, spareTerm)) {
            return MISSING;
        }
        askSpareTerm();
        return asking.size;
    }

    public int tried(int what, int how, int i) {
        if (what < 0 || what > 4 || !isWay(how)) {
            return NONE;
        }
        if (what == 2 ? !book.hasRule(i) : i != 0) {
            return NONE;
        }
        if (asking.size == 0) {
            return MISSING;
        }
        switch (what) {
            case 0:
                looseAsking.copyApart(asking);
                return looseCount(how, looseAsking);
            case 1:
                return looseCount(how, asking);
            case 2:
                return Integer.bitCount(fitBits(how, asking, standing.bits & ~(1 << i)));
            case 3:
                return Integer.bitCount(fitBits(how, asking, ALL_RULES));
            default:
                looseAsking.copyAsOne(asking);
                return Integer.bitCount(fitBits(how, looseAsking, standing.bits));
        }
    }

    public int undo() {
        if (!standing.turnLatestBack()) {
            return NONE;
        }
        tree.plant(book, standing);
        return standing.turnCount;
    }

    public int keep() {
        standing.keepImage();
        return Integer.bitCount(standing.bits);
    }

    public int back() {
        if (!standing.takeImage()) {
            return NONE;
        }
        tree.plant(book, standing);
        return Integer.bitCount(standing.bits);
    }

    public int count(int what) {
        switch (what) {
            case 0:
                return book.signCount;
            case 1:
                return book.variableCount;
            case 2:
                return book.ruleCount;
            case 3:
                return Integer.bitCount(standing.bits);
            case 4:
                return tree.nodes();
            case 5:
                return tree.leaves();
            case 6:
                return book.places();
            case 7:
                return asking.size;
            case 8:
                return tree.longestPath();
            case 9:
                return tree.repeatingRules();
            case 10:
                return standing.turnCount;
            default:
                return NONE;
        }
    }

    private void tapeNumber(int number) {
        for (int shift = (NUMBER_BYTES - 1) * 8; shift >= 0; shift -= 8) {
            if (taped >= 0 && taped < MOST_TAPE) {
                tape[taped] = (number >>> shift) & 255;
                taped++;
            }
        }
    }

    private void askSpareTerm() {
        Term old = asking;
        asking = spareTerm;
        spareTerm = old;
    }

    private int turnedNodes(int rule) {
        int ahead = tree.nodes();
        standing.turn(rule);
        tree.plant(book, standing);
        return Math.abs(tree.nodes() - ahead);
    }

    private boolean isAskedRule(int rule) {
        return book.hasRule(rule) && asking.size > 0 && standing.isIn(rule);
    }

    private static boolean isWay(int how) {
        return how >= GENERAL && how <= UNIFIED;
    }

    private static boolean hasBit(int bits, int bit) {
        return bit >= 0 && bit < MOST_RULES && (bits >> bit & 1) == 1;
    }

    /** Bits of all numbers that are more than a rule's. */
    private static int bitsBehind(int rule) {
        return -2 << rule;
    }

    private boolean fitsTerms(int how, Term term, Term query) {
        switch (how) {
            case GENERAL:
                return matcher.matches(term, query, 0);
            case INSTANCE:
                return matcher.matches(query, term, 0);
            case UNIFIED:
                return unifier.unifies(term, 0, query);
            default:
                return matcher.matches(term, query, 0) && matcher.matches(query, term, 0);
        }
    }

    /** A rule that fits is always a candidate, so what is found needs no walk in the tree. */
    private int fitBits(int how, Term query, int among) {
        int bits = 0;
        for (int rule = 0; rule < book.ruleCount; rule++) {
            if (hasBit(among, rule) && fitsTerms(how, book.termOf(rule), query)) {
                bits |= 1 << rule;
            }
        }
        return bits;
    }

    private int looseCount(int how, Term query) {
        int fitting = 0;
        for (int i = 0; i < tree.size; i++) {
            looseTerm.copyApart(book.termOf(tree.ruleAt(i)));
            if (fitsTerms(how, looseTerm, query)) {
                fitting++;
            }
        }
        return fitting;
    }

    private int aboveBits(int rule) {
        int bits = 0;
        for (int other = 0; other < book.ruleCount; other++) {
            if (other != rule && matcher.matches(book.termOf(rule), book.termOf(other), 0)) {
                bits |= 1 << other;
            }
        }
        return bits;
    }

    private boolean isTop(int rule) {
        Term term = book.termOf(rule);
        for (int other = 0; other < book.ruleCount; other++) {
            if (other != rule && standing.isIn(other)
                    && matcher.matches(book.termOf(other), term, 0)
                    && !matcher.matches(term, book.termOf(other), 0)) {
                return false;
            }
        }
        return true;
    }

    private int overlapBits(int one, int other) {
        int bits = 0;
        int places = book.termOf(one).size;
        for (int place = 0; place < places; place++) {
            if (overlapsAt(one, other, place)) {
                bits |= 1 << place;
            }
        }
        return bits;
    }

    private boolean overlapsAt(int one, int other, int place) {
        if (one == other && place == 0) {
            return false;
        }
        Term term = book.termOf(one);
        return term.codeAt(place) < STAR && unifier.unifies(term, place, book.termOf(other));
    }

    /** A term as the row of its codes, each with how many arguments it has. */
    private static final class Term {
        private final int[] codes;
        private final int[] arities;
        int size = 0;

        Term(int room) {
            codes = new int[room];
            arities = new int[room];
        }

        void clear() {
            size = 0;
        }

        boolean add(int code, int arity) {
            if (size < 0 || size >= codes.length) {
                return false;
            }
            codes[size] = code;
            arities[size] = arity;
            size++;
            return true;
        }

        boolean addPart(Term from, int start, int end) {
            for (int place = start; place < end; place++) {
                if (!add(from.codeAt(place), from.arityAt(place))) {
                    return false;
                }
            }
            return true;
        }

        void copyOf(Term from) {
            clear();
            addPart(from, 0, from.size);
        }

        /** Copies with a variable of its own at every place that has one. */
        void copyApart(Term from) {
            clear();
            for (int place = 0; place < from.size; place++) {
                int code = from.codeAt(place);
                add(code < STAR ? code : STAR + place, from.arityAt(place));
            }
        }

        void copyAsOne(Term from) {
            clear();
            for (int place = 0; place < from.size; place++) {
                add(from.pathCode(place), from.arityAt(place));
            }
        }

        int codeAt(int place) {
            return place >= 0 && place < size ? codes[place] : NONE;
        }

        int arityAt(int place) {
            return place >= 0 && place < size ? arities[place] : 0;
        }

        int codeOrMissing(int place) {
            return place >= 0 && place < size ? codes[place] : MISSING;
        }

        int pathCode(int place) {
            if (place < 0 || place >= size) {
                return NONE;
            }
            return Math.min(codes[place], STAR);
        }

        int behind(int place) {
            int open = 1;
            int end = place;
            while (open > 0 && end >= 0 && end < size) {
                open += arities[end] - 1;
                end++;
            }
            return end;
        }

        /** Whether the terms that begin at two places are the same. */
        boolean isAlike(int one, int other) {
            int length = behind(one) - one;
            for (int i = 0; i < length; i++) {
                if (codeAt(one + i) != codeAt(other + i)) {
                    return false;
                }
            }
            return true;
        }

        /** The first place of a code, or the size if it is nowhere. */
        int firstPlace(int code) {
            for (int place = 0; place < size; place++) {
                if (codeAt(place) == code) {
                    return place;
                }
            }
            return size;
        }

        int variables() {
            int different = 0;
            for (int place = 0; place < size; place++) {
                if (codeAt(place) >= STAR && firstPlace(codeAt(place)) == place) {
                    different++;
                }
            }
            return different;
        }

        boolean repeatsVariable() {
            for (int place = 0; place < size; place++) {
                if (codeAt(place) >= STAR && firstPlace(codeAt(place)) < place) {
                    return true;
                }
            }
            return false;
        }

        int levels() {
            int deepest = 0;
            for (int place = 0; place < size; place++) {
                int level = 1;
                for (int ahead = 0; ahead < place; ahead++) {
                    if (behind(ahead) > place) {
                        level++;
                    }
                }
                deepest = Math.max(deepest, level);
            }
            return deepest;
        }

        int sharedPath(Term other) {
            int least = Math.min(size, other.size);
            for (int place = 0; place < least; place++) {
                if (pathCode(place) != other.pathCode(place)) {
                    return place;
                }
            }
            return least;
        }

        boolean isAheadByPath(Term other) {
            int place = sharedPath(other);
            if (place >= size || place >= other.size) {
                return false;
            }
            int code = pathCode(place);
            int otherCode = other.pathCode(place);
            if (code == STAR || otherCode == STAR) {
                return code == STAR;
            }
            return code < otherCode;
        }
    }

    /** What a text tells: signs, variables and rules with their names. */
    private static final class Book {
        private final int[] signNames = new int[MOST_SIGNS];
        private final int[] signArities = new int[MOST_SIGNS];
        private final int[] variableNames = new int[MOST_VARIABLES];
        private final int[] ruleNames = new int[MOST_RULES];
        private final Term[] terms = new Term[MOST_RULES];
        private final Term[] rights = new Term[MOST_RULES];
        private final Term noTerm = new Term(0);
        int signCount = 0;
        int variableCount = 0;
        int ruleCount = 0;

        Book() {
            for (int rule = 0; rule < MOST_RULES; rule++) {
                terms[rule] = new Term(MOST_PLACES);
                rights[rule] = new Term(MOST_PLACES);
            }
        }

        void clear() {
            signCount = 0;
            variableCount = 0;
            ruleCount = 0;
        }

        void addSign(int name, int arity) {
            if (signCount >= 0 && signCount < MOST_SIGNS) {
                signNames[signCount] = name;
                signArities[signCount] = arity;
                signCount++;
            }
        }

        void addVariable(int name) {
            if (variableCount >= 0 && variableCount < MOST_VARIABLES) {
                variableNames[variableCount] = name;
                variableCount++;
            }
        }

        /** Its terms have been read already, into what the next rule's are. */
        void addRule(int name) {
            if (ruleCount >= 0 && ruleCount < MOST_RULES) {
                ruleNames[ruleCount] = name;
                ruleCount++;
            }
        }

        boolean hasRule(int rule) {
            return rule >= 0 && rule < ruleCount;
        }

        Term termOf(int rule) {
            return rule >= 0 && rule < MOST_RULES ? terms[rule] : noTerm;
        }

        Term rightOf(int rule) {
            return rule >= 0 && rule < MOST_RULES ? rights[rule] : noTerm;
        }

        int codeNamed(int letters) {
            int sign = placeOf(signNames, signCount, letters);
            if (sign >= 0) {
                return sign;
            }
            int variable = placeOf(variableNames, variableCount, letters);
            return variable >= 0 ? STAR + variable : NONE;
        }

        int ruleNamed(int letters) {
            return placeOf(ruleNames, ruleCount, letters);
        }

        private static int placeOf(int[] names, int size, int letters) {
            for (int i = 0; i < size && i < names.length; i++) {
                if (names[i] == letters) {
                    return i;
                }
            }
            return NONE;
        }

        int arityOf(int code) {
            return code >= 0 && code < signCount && code < MOST_SIGNS ? signArities[code] : 0;
        }

        /** The code of what needs no arguments, a sign rather than a variable. */
        int plainCode() {
            for (int sign = 0; sign < signCount; sign++) {
                if (arityOf(sign) == 0) {
                    return sign;
                }
            }
            return variableCount > 0 ? STAR : NONE;
        }

        int places() {
            int sum = 0;
            for (int rule = 0; rule < ruleCount; rule++) {
                sum += termOf(rule).size;
            }
            return sum;
        }
    }

    /** Bytes of the tape as tokens, all made at once and then looked at one after another. */
    private static final class Tokens {
        static final int END = 0;
        static final int BAD = 1;
        static final int NAME = 2;
        static final int SIGN = 3;
        static final int VAR = 4;
        static final int RULE = 5;
        static final int NUMBER = 6;

        private static final int LETTER_BITS = 5;
        private static final int MOST_LETTERS = 6;
        private static final int SIGN_LETTERS = (19 << 25) | (9 << 20) | (7 << 15) | (14 << 10);
        private static final int VAR_LETTERS = (22 << 25) | (1 << 20) | (18 << 15);
        private static final int RULE_LETTERS = (18 << 25) | (21 << 20) | (12 << 15) | (5 << 10);
        /** Beyond all that a number may be; more digits do not make it grow. */
        private static final int LARGE = 1000;

        private final int[] kinds = new int[MOST_TAPE + 1];
        private final int[] starts = new int[MOST_TAPE + 1];
        private final int[] values = new int[MOST_TAPE + 1];
        private int size = 0;
        private int next = 0;
        /** Of the token that is looked at, and where it starts. */
        int kind = END;
        int start = 0;
        /** The letters of a word, what a number tells. */
        int value = 0;

        void startOn(int[] bytes, int length) {
            size = 0;
            int end = Math.min(length, Math.min(bytes.length, MOST_TAPE));
            int behind = 0;
            for (int place = 0; place < end; place++) {
                if (place >= behind) {
                    behind = takeToken(bytes, place, end);
                }
            }
            append(END, end, 0);
            next = 0;
            advance();
        }

        /** Behind the last token, the end, one does not come. */
        void advance() {
            if (next >= 0 && next < size && next <= MOST_TAPE) {
                kind = kinds[next];
                start = starts[next];
                value = values[next];
                next++;
            }
        }

        private void append(int newKind, int place, int newValue) {
            if (size >= 0 && size <= MOST_TAPE) {
                kinds[size] = newKind;
                starts[size] = place;
                values[size] = newValue;
                size++;
            }
        }

        /** Answers the place behind the token, or behind the blank. */
        private int takeToken(int[] bytes, int place, int end) {
            int sign = bytes[place];
            if (isLetter(sign)) {
                return takeWord(bytes, place, end);
            }
            if (isDigit(sign)) {
                return takeNumber(bytes, place, end);
            }
            if (!isBlank(sign)) {
                append(markKind(sign), place, 0);
            }
            return place + 1;
        }

        private int takeWord(int[] bytes, int place, int end) {
            int letters = 0;
            int at = place;
            while (at < end && isLetter(bytes[at])) {
                int letter = at - place;
                if (letter < MOST_LETTERS) {
                    int shift = LETTER_BITS * (MOST_LETTERS - 1 - letter);
                    letters |= (bytes[at] - 'a' + 1) << shift;
                }
                at++;
            }
            append(at - place > MOST_LETTERS ? BAD : wordKind(letters), place, letters);
            return at;
        }

        private int takeNumber(int[] bytes, int place, int end) {
            int number = 0;
            int at = place;
            while (at < end && isDigit(bytes[at])) {
                number = Math.min(LARGE, number * 10 + bytes[at] - '0');
                at++;
            }
            append(NUMBER, place, number);
            return at;
        }

        private static int wordKind(int letters) {
            switch (letters) {
                case SIGN_LETTERS:
                    return SIGN;
                case VAR_LETTERS:
                    return VAR;
                case RULE_LETTERS:
                    return RULE;
                default:
                    return NAME;
            }
        }

        private static int markKind(int sign) {
            boolean isMark = sign == ';' || sign == '=' || sign == ',' || sign == '(' || sign == ')';
            return isMark ? sign : BAD;
        }

        private static boolean isBlank(int sign) {
            return sign == 10 || sign == 32;
        }

        private static boolean isLetter(int sign) {
            return sign >= 'a' && sign <= 'z';
        }

        private static boolean isDigit(int sign) {
            return sign >= '0' && sign <= '9';
        }
    }

    /** Reads texts and queries; what it reads is good only if it found no fault. */
    private static final class Reader {
        private static final int MISPLACED = 1;
        private static final int TOO_MUCH = 2;
        private static final int TOLD = 3;
        private static final int UNTOLD = 4;
        private static final int UNBOUND = 5;

        private final Tokens tokens = new Tokens();
        /** How many arguments must still come, for each bracket that is open. */
        private final int[] wanted = new int[MOST_PLACES];
        private int open = 0;
        int fault = 0;
        int faultPlace = NONE;

        /** How many lines, or NONE with a fault. */
        int readLines(int[] bytes, int size, Book into) {
            begin(bytes, size);
            into.clear();
            int lines = 0;
            while (lines <= MOST_TAPE && tokens.kind != Tokens.END) {
                if (!readLine(into) || !pass(';')) {
                    return NONE;
                }
                lines++;
            }
            return lines;
        }

        boolean readAlone(int[] bytes, int size, Book book, Term into) {
            begin(bytes, size);
            return readTerm(book, into, into, false)
                    && (tokens.kind == Tokens.END || fail(MISPLACED));
        }

        private void begin(int[] bytes, int size) {
            fault = 0;
            faultPlace = NONE;
            tokens.startOn(bytes, size);
        }

        private boolean fail(int number) {
            fault = number;
            faultPlace = tokens.start;
            return false;
        }

        private boolean pass(int kind) {
            if (tokens.kind != kind) {
                return fail(MISPLACED);
            }
            tokens.advance();
            return true;
        }

        private boolean readLine(Book into) {
            switch (tokens.kind) {
                case Tokens.SIGN:
                    return readSign(into);
                case Tokens.VAR:
                    return readVariable(into);
                case Tokens.RULE:
                    return readRule(into);
                default:
                    return fail(MISPLACED);
            }
        }

        private boolean readSign(Book into) {
            if (into.signCount >= MOST_SIGNS) {
                return fail(TOO_MUCH);
            }
            tokens.advance();
            int name = tokens.value;
            if (!passNewName(into.codeNamed(name))) {
                return false;
            }
            if (tokens.kind == Tokens.NUMBER && tokens.value > MOST_ARGUMENTS) {
                return fail(TOO_MUCH);
            }
            int arity = tokens.value;
            if (!pass(Tokens.NUMBER)) {
                return false;
            }
            into.addSign(name, arity);
            return true;
        }

        private boolean readVariable(Book into) {
            if (into.variableCount >= MOST_VARIABLES) {
                return fail(TOO_MUCH);
            }
            tokens.advance();
            int name = tokens.value;
            if (!passNewName(into.codeNamed(name))) {
                return false;
            }
            into.addVariable(name);
            return true;
        }

        private boolean readRule(Book into) {
            if (into.ruleCount >= MOST_RULES) {
                return fail(TOO_MUCH);
            }
            tokens.advance();
            int name = tokens.value;
            if (!passNewName(into.ruleNamed(name))) {
                return false;
            }
            Term term = into.termOf(into.ruleCount);
            Term right = into.rightOf(into.ruleCount);
            right.clear();
            if (!readTerm(into, term, term, false)) {
                return false;
            }
            if (tokens.kind == '=') {
                tokens.advance();
                if (!readTerm(into, right, term, true)) {
                    return false;
                }
            }
            into.addRule(name);
            return true;
        }

        private boolean passNewName(int told) {
            if (tokens.kind == Tokens.NAME && told != NONE) {
                return fail(TOLD);
            }
            return pass(Tokens.NAME);
        }

        /** With bound, its variables must be some of the left term's. */
        private boolean readTerm(Book book, Term into, Term left, boolean bound) {
            into.clear();
            open = 0;
            boolean more = true;
            for (int turn = 0; turn <= MOST_PLACES && more; turn++) {
                if (!readPlace(book, into, left, bound) || !closeBrackets(into)) {
                    return false;
                }
                more = open > 0;
            }
            return true;
        }

        private boolean readPlace(Book book, Term into, Term left, boolean bound) {
            if (tokens.kind != Tokens.NAME) {
                return fail(MISPLACED);
            }
            if (into.size >= MOST_PLACES) {
                return fail(TOO_MUCH);
            }
            int code = book.codeNamed(tokens.value);
            if (code == NONE) {
                return fail(UNTOLD);
            }
            if (bound && code >= STAR && left.firstPlace(code) >= left.size) {
                return fail(UNBOUND);
            }
            tokens.advance();
            return into.add(code, book.arityOf(code));
        }

        /** Behind a place: opens its own bracket, or else passes all that ends there. */
        private boolean closeBrackets(Term into) {
            int arity = into.arityAt(into.size - 1);
            if (arity > 0) {
                return pass('(') && openBracket(arity);
            }
            while (open > 0 && open <= MOST_PLACES) {
                wanted[open - 1]--;
                if (wanted[open - 1] > 0) {
                    return pass(',');
                }
                if (!pass(')')) {
                    return false;
                }
                open--;
            }
            return true;
        }

        private boolean openBracket(int arity) {
            if (open < 0 || open >= MOST_PLACES) {
                return false;
            }
            wanted[open] = arity;
            open++;
            return true;
        }
    }

    /** Which rules are in, how they came to be so, and an image of it. */
    private static final class Standing {
        private final int[] turned = new int[MOST_UNDONE];
        private int image = 0;
        private boolean hasImage = false;
        int turnCount = 0;
        int bits = 0;

        void startAnew(int rules) {
            bits = (1 << rules) - 1;
            turnCount = 0;
            hasImage = false;
        }

        boolean isIn(int rule) {
            return hasBit(bits, rule);
        }

        void turn(int rule) {
            bits ^= 1 << rule;
            if (turnCount >= MOST_UNDONE) {
                forgetFirst();
            }
            if (turnCount >= 0 && turnCount < MOST_UNDONE) {
                turned[turnCount] = rule;
                turnCount++;
            }
        }

        private void forgetFirst() {
            for (int i = 1; i < MOST_UNDONE; i++) {
                turned[i - 1] = turned[i];
            }
            turnCount = MOST_UNDONE - 1;
        }

        boolean turnLatestBack() {
            if (turnCount <= 0 || turnCount > MOST_UNDONE) {
                return false;
            }
            turnCount--;
            bits ^= 1 << turned[turnCount];
            return true;
        }

        void keepImage() {
            image = bits;
            hasImage = true;
        }

        boolean takeImage() {
            if (!hasImage) {
                return false;
            }
            bits = image;
            turnCount = 0;
            return true;
        }
    }

    /**
     * The tree, held as the rules that are in, in the order of paths: a rule brings just the nodes
     * that are longer than what its path shares with that of the rule ahead.
     */
    private static final class Tree {
        private final int[] rules = new int[MOST_RULES];
        private final Term[] terms = new Term[MOST_RULES];
        private final int[] sharedAhead = new int[MOST_RULES];
        private final Term noTerm = new Term(0);
        int size = 0;
        int candidates = 0;
        int visited = 0;

        Tree() {
            for (int i = 0; i < MOST_RULES; i++) {
                terms[i] = noTerm;
            }
        }

        void plant(Book book, Standing standing) {
            size = 0;
            for (int rule = 0; rule < book.ruleCount; rule++) {
                if (standing.isIn(rule)) {
                    insert(rule, book.termOf(rule));
                }
            }
            for (int i = 0; i < size; i++) {
                sharedAhead[i] = i == 0 ? 0 : termAt(i).sharedPath(termAt(i - 1));
            }
        }

        private void insert(int rule, Term term) {
            if (size < 0 || size >= MOST_RULES) {
                return;
            }
            int place = size;
            while (place > 0 && term.isAheadByPath(terms[place - 1])) {
                rules[place] = rules[place - 1];
                terms[place] = terms[place - 1];
                place--;
            }
            rules[place] = rule;
            terms[place] = term;
            size++;
        }

        int ruleAt(int i) {
            return i >= 0 && i < size ? rules[i] : NONE;
        }

        private Term termAt(int i) {
            return i >= 0 && i < size ? terms[i] : noTerm;
        }

        private boolean bringsNode(int i, int length) {
            return i >= 0 && i < size && length > sharedAhead[i] && length <= termAt(i).size;
        }

        int nodesOfLength(int length) {
            int nodes = 0;
            for (int i = 0; i < size; i++) {
                if (bringsNode(i, length)) {
                    nodes++;
                }
            }
            return nodes;
        }

        int nodes() {
            int nodes = 0;
            for (int length = 1; length <= MOST_PLACES; length++) {
                nodes += nodesOfLength(length);
            }
            return nodes;
        }

        int leaves() {
            int leaves = 0;
            for (int i = 0; i < size; i++) {
                if (bringsNode(i, termAt(i).size)) {
                    leaves++;
                }
            }
            return leaves;
        }

        int branchCode(int length, int k) {
            int ahead = 0;
            for (int i = 0; i < size; i++) {
                if (bringsNode(i, length)) {
                    if (ahead == k) {
                        return termAt(i).pathCode(length - 1);
                    }
                    ahead++;
                }
            }
            return MISSING;
        }

        int longestPath() {
            int longest = 0;
            for (int i = 0; i < size; i++) {
                longest = Math.max(longest, termAt(i).size);
            }
            return longest;
        }

        int repeatingRules() {
            int repeating = 0;
            for (int i = 0; i < size; i++) {
                if (termAt(i).repeatsVariable()) {
                    repeating++;
                }
            }
            return repeating;
        }

        int largestClass(int place) {
            int largest = 0;
            for (int i = 0; i < size; i++) {
                int alike = 0;
                for (int other = 0; other < size; other++) {
                    if (classCode(i, place) == classCode(other, place)) {
                        alike++;
                    }
                }
                largest = Math.max(largest, alike);
            }
            return largest;
        }

        private int classCode(int i, int place) {
            Term term = termAt(i);
            return place < term.size ? term.pathCode(place) : PATH_END;
        }

        void walk(int how, Term query) {
            candidates = 0;
            visited = 0;
            for (int i = 0; i < size; i++) {
                if (walkPath(i, how, query)) {
                    candidates++;
                }
            }
        }

        /** Where a path leads no further no rule below it does, so each path is walked alone. */
        private boolean walkPath(int i, int how, Term query) {
            Term term = termAt(i);
            int length = 0;
            int place = 0;
            for (int turn = 0; turn < MOST_PLACES && place < query.size; turn++) {
                boolean star = term.codeAt(length) >= STAR;
                boolean variable = query.codeAt(place) >= STAR;
                if (variable && (star || how != GENERAL)) {
                    length = term.behind(length);
                    place++;
                } else if (!variable && star && how != INSTANCE) {
                    length++;
                    place = query.behind(place);
                } else if (!variable && !star && term.codeAt(length) == query.codeAt(place)) {
                    length++;
                    place++;
                } else {
                    return false;
                }
                if (bringsNode(i, length)) {
                    visited++;
                }
            }
            return length >= term.size && place >= query.size;
        }
    }

    /** Puts terms for the variables of one term so that it becomes another one. */
    private static final class Matcher {
        private final int[] starts = new int[MOST_PLACES];

        boolean matches(Term general, Term target, int place) {
            for (int variable = 0; variable < MOST_PLACES; variable++) {
                starts[variable] = NONE;
            }
            int at = place;
            for (int from = 0; from < general.size; from++) {
                int code = general.codeAt(from);
                if (at >= target.size) {
                    return false;
                }
                if (code >= STAR) {
                    if (!fill(code - STAR, target, at)) {
                        return false;
                    }
                    at = target.behind(at);
                } else if (code == target.codeAt(at)) {
                    at++;
                } else {
                    return false;
                }
            }
            return true;
        }

        private boolean fill(int variable, Term target, int at) {
            if (variable < 0 || variable >= MOST_PLACES) {
                return false;
            }
            if (starts[variable] == NONE) {
                starts[variable] = at;
                return true;
            }
            return target.isAlike(starts[variable], at);
        }

        /** Where in the target begins what is put for a variable, or NONE. */
        int startOf(int variable) {
            return variable >= 0 && variable < MOST_PLACES ? starts[variable] : NONE;
        }
    }

    /**
     * Unifies two terms by classes of their places that must become alike, so that no term is ever
     * written out while it does; a variable is the first of its places.
     */
    private static final class Unifier {
        private static final int MOST_NODES = 2 * MOST_PLACES;
        /** Each of the classes' unions brings as many pairs as a sign has arguments. */
        private static final int MOST_PAIRS = 1 + MOST_ARGUMENTS * MOST_NODES;
        /** Each place written takes one from the row and brings as many as a sign has arguments. */
        private static final int MOST_PENDING = 1 + MOST_ARGUMENTS * MOST_LONG_PLACES;

        private final int[] codes = new int[MOST_NODES];
        private final int[] arities = new int[MOST_NODES];
        private final int[] behind = new int[MOST_NODES];
        private final int[] parents = new int[MOST_NODES];
        private final int[] signs = new int[MOST_NODES];
        private final int[] numbers = new int[MOST_NODES];
        private final boolean[] settled = new boolean[MOST_NODES];
        private final int[] ones = new int[MOST_PAIRS];
        private final int[] others = new int[MOST_PAIRS];
        private final int[] pending = new int[MOST_PENDING];
        private final Term shape = new Term(MOST_LONG_PLACES);
        private int size = 0;
        private int pairs = 0;
        private int waiting = 0;
        private int numbered = 0;

        /** Whether the part of one term at a place unifies with another one, variables apart. */
        boolean unifies(Term one, int place, Term other) {
            int code = one.codeAt(place);
            int otherCode = other.codeAt(0);
            if (code < STAR && otherCode < STAR && code != otherCode) {
                return false;
            }
            size = 0;
            load(one);
            int root = size;
            load(other);
            ones[0] = place;
            others[0] = root;
            pairs = 1;
            return uniteAll() && hasNoCircle();
        }

        private void load(Term term) {
            int base = size;
            for (int place = 0; place < term.size && size < MOST_NODES; place++) {
                int code = term.codeAt(place);
                codes[size] = code;
                arities[size] = term.arityAt(place);
                behind[size] = base + term.behind(place);
                parents[size] = code < STAR ? size : base + term.firstPlace(code);
                signs[size] = code < STAR ? size : NONE;
                size++;
            }
        }

        private boolean isNode(int node) {
            return node >= 0 && node < size && node < MOST_NODES;
        }

        private boolean uniteAll() {
            for (int turn = 0; turn < MOST_PAIRS && pairs > 0; turn++) {
                pairs--;
                int one = classOf(ones[pairs]);
                int other = classOf(others[pairs]);
                if (one != other && !unite(one, other)) {
                    return false;
                }
            }
            return true;
        }

        private int classOf(int node) {
            int at = node;
            for (int turn = 0; turn < size && isNode(at) && parents[at] != at; turn++) {
                at = parents[at];
            }
            return isNode(at) ? at : 0;
        }

        private boolean unite(int one, int other) {
            int sign = signs[one];
            int otherSign = signs[other];
            parents[one] = other;
            if (!isNode(sign)) {
                return true;
            }
            if (!isNode(otherSign)) {
                signs[other] = sign;
                return true;
            }
            if (codes[sign] != codes[otherSign]) {
                return false;
            }
            pairArguments(sign, otherSign);
            return true;
        }

        private void pairArguments(int sign, int otherSign) {
            int one = sign + 1;
            int other = otherSign + 1;
            for (int i = 0; i < arities[sign] && isNode(one) && isNode(other); i++) {
                if (pairs < 0 || pairs >= MOST_PAIRS) {
                    return;
                }
                ones[pairs] = one;
                others[pairs] = other;
                pairs++;
                one = behind[one];
                other = behind[other];
            }
        }

        /** A class is settled when all that stands in it is; those in a circle never are. */
        private boolean hasNoCircle() {
            for (int node = 0; node < size; node++) {
                settled[node] = false;
            }
            int left = size;
            boolean more = true;
            for (int turn = 0; turn < size && more; turn++) {
                int newly = settleMore();
                left -= newly;
                more = newly > 0;
            }
            return left == 0;
        }

        /** From the last node on, for arguments come behind their signs. */
        private int settleMore() {
            int newly = 0;
            for (int node = size - 1; node >= 0; node--) {
                if (!settled[node] && isSettling(classOf(node))) {
                    settled[node] = true;
                    newly++;
                }
            }
            return newly;
        }

        private boolean isSettling(int root) {
            int sign = signs[root];
            if (!isNode(sign)) {
                return true;
            }
            int argument = sign + 1;
            for (int i = 0; i < arities[sign] && isNode(argument); i++) {
                if (!settled[argument]) {
                    return false;
                }
                argument = behind[argument];
            }
            return true;
        }

        /** What the first term comes to; without places, if it has more than may be told. */
        Term unifiedShape() {
            shape.clear();
            numbered = 0;
            for (int node = 0; node < size; node++) {
                numbers[node] = NONE;
            }
            pending[0] = 0;
            waiting = 1;
            for (int turn = 0; turn < MOST_LONG_PLACES && waiting > 0; turn++) {
                waiting--;
                writeClass(classOf(pending[waiting]));
            }
            if (waiting > 0) {
                shape.clear();
            }
            return shape;
        }

        private void writeClass(int root) {
            int sign = signs[root];
            if (isNode(sign)) {
                shape.add(codes[sign], arities[sign]);
                awaitArguments(sign);
                return;
            }
            if (numbers[root] == NONE) {
                numbers[root] = STAR + numbered;
                numbered++;
            }
            shape.add(numbers[root], 0);
        }

        /** The first argument comes to stand on top, to be written first. */
        private void awaitArguments(int sign) {
            int argument = sign + 1;
            int top = waiting + arities[sign];
            if (top > MOST_PENDING) {
                return;
            }
            for (int i = top - 1; i >= waiting && isNode(argument); i--) {
                pending[i] = argument;
                argument = behind[argument];
            }
            waiting = top;
        }
    }

    /** Finds the least general term above two. */
    private static final class Joiner {
        private final int[] ones = new int[MOST_PLACES];
        private final int[] others = new int[MOST_PLACES];
        private final Term shape = new Term(MOST_PLACES);
        private int pairs = 0;

        Term joinedShape(Term one, Term other) {
            shape.clear();
            pairs = 0;
            int at = 0;
            int otherAt = 0;
            for (int turn = 0; turn < MOST_PLACES && at < one.size; turn++) {
                int code = one.codeAt(at);
                if (code < STAR && code == other.codeAt(otherAt)) {
                    shape.add(code, one.arityAt(at));
                    at++;
                    otherAt++;
                } else {
                    shape.add(STAR + pairNumber(one, at, other, otherAt), 0);
                    at = one.behind(at);
                    otherAt = other.behind(otherAt);
                }
            }
            return shape;
        }

        private int pairNumber(Term one, int at, Term other, int otherAt) {
            for (int i = 0; i < pairs; i++) {
                if (one.isAlike(ones[i], at) && other.isAlike(others[i], otherAt)) {
                    return i;
                }
            }
            if (pairs < 0 || pairs >= MOST_PLACES) {
                return 0;
            }
            ones[pairs] = at;
            others[pairs] = otherAt;
            pairs++;
            return pairs - 1;
        }
    }

    /** Brings a query to its normal form by the rules that are in. */
    private static final class Rewriter {
        private final Matcher matcher = new Matcher();
        private Term next = new Term(MOST_LONG_PLACES);
        Term now = new Term(MOST_LONG_PLACES);
        int done = 0;
        int firstRule = MISSING;

        void rewrite(Book book, Standing standing, Term query) {
            now.copyOf(query);
            done = 0;
            firstRule = MISSING;
            boolean more = true;
            for (int turn = 0; turn < MOST_STEPS && more; turn++) {
                more = makeStep(book, standing);
            }
        }

        private boolean makeStep(Book book, Standing standing) {
            for (int place = 0; place < now.size; place++) {
                int rule = ruleFor(book, standing, place);
                if (rule != NONE) {
                    return replace(place, book.rightOf(rule), rule);
                }
            }
            return false;
        }

        private int ruleFor(Book book, Standing standing, int place) {
            for (int rule = 0; rule < book.ruleCount; rule++) {
                if (standing.isIn(rule) && book.rightOf(rule).size > 0
                        && matcher.matches(book.termOf(rule), now, place)) {
                    return rule;
                }
            }
            return NONE;
        }

        /** What is put for the rule's variables is as the matcher left it. */
        private boolean replace(int place, Term right, int rule) {
            next.clear();
            boolean hasRoom = next.addPart(now, 0, place);
            for (int i = 0; i < right.size && hasRoom; i++) {
                hasRoom = addFilled(right, i);
            }
            hasRoom = hasRoom && next.addPart(now, now.behind(place), now.size);
            if (!hasRoom) {
                return false;
            }
            Term old = now;
            now = next;
            next = old;
            if (done == 0) {
                firstRule = rule;
            }
            done++;
            return true;
        }

        private boolean addFilled(Term right, int i) {
            int code = right.codeAt(i);
            if (code < STAR) {
                return next.add(code, right.arityAt(i));
            }
            int start = matcher.startOf(code - STAR);
            return start >= 0 && next.addPart(now, start, now.behind(start));
        }
    }

    /** Draws terms by chance, the same ones from the same seed. */
    private static final class Drawer {
        private static final int FACTOR = 1103515245;
        private static final int SUMMAND = 12345;
        private static final int DIVISOR = 65536;
        private static final int LOW_BITS = 2147483647;

        private int last = 0;

        void seed(int seed) {
            last = seed;
        }

        private int number() {
            last = (last * FACTOR + SUMMAND) & LOW_BITS;
            return last / DIVISOR;
        }

        boolean drawTerm(Book book, Term into) {
            into.clear();
            int choices = book.signCount + book.variableCount;
            if (choices <= 0) {
                return false;
            }
            int open = 1;
            for (int turn = 0; turn < MOST_PLACES && open > 0; turn++) {
                int chosen = number() % choices;
                int code = chosen < book.signCount ? chosen : STAR + chosen - book.signCount;
                if (into.size + open + book.arityOf(code) > MOST_PLACES) {
                    code = book.plainCode();
                }
                if (code == NONE) {
                    return false;
                }
                into.add(code, book.arityOf(code));
                open += book.arityOf(code) - 1;
            }
            return open == 0;
        }
    }
}
