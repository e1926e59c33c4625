import java.util.Arrays;
import java.util.NoSuchElementException;

/**
 * Assertions about signals: two properties read from texts, a word of letters that comes one by one,
 * and a small design of gates and latches. The document's numbered promises say what each call does.
 */
public final class AssertionBench {
    /** There is none. */
    public static final int NONE = -1;

    private static final int MOST_SIGNS = 400;
    private static final int MOST_LETTERS = 24;
    private static final int MOST_OPEN = 20;
    private static final int MOST_LOOKS = 5;
    private static final int LETTERS = 64;
    private static final int SIGNALS = 6;
    private static final int PROPERTIES = 2;
    private static final int SMALL_WEIGHT = 6;

    private final Tokens tokens = new Tokens();
    private final PropertyLexer propertyLexer = new PropertyLexer(tokens);
    private final PropertyReader propertyReader = new PropertyReader(tokens);
    private final DesignReader designReader = new DesignReader(tokens);
    private final NumbersReader numbersReader = new NumbersReader(tokens);
    private final Property[] properties = {new Property(), new Property()};
    private final Property truth = new Property();
    private final Design wires = new Design();
    private final Hunt runs = new Hunt();
    private final Hunt witnesses = new Hunt();
    private final int[] letters = new int[MOST_LETTERS];
    private final long[][] rows = new long[PROPERTIES][Property.MOST_ROW];
    private final int[] failedAt = new int[PROPERTIES];
    private Property spareProperty = new Property();
    private Design circuit = new Design();
    private Design spareCircuit = new Design();
    private int length;
    private int looks;

    public AssertionBench() {
        // What the fields hold at first is the new object; rows are begun with the first letter.
    }

    public int put(int signs) throws IllegalArgumentException, UnsupportedOperationException {
        int more = 0;
        for (int k = 0; k < 4; k++) {
            int sign = (signs >>> (8 * k)) & 255;
            if (sign != 0 && (sign < 32 || sign > 126)) {
                throw new IllegalArgumentException();
            }
            more += sign == 0 ? 0 : 1;
        }
        if (tokens.signCount() + more > MOST_SIGNS) {
            throw new UnsupportedOperationException();
        }
        for (int k = 0; k < 4; k++) {
            tokens.addSign((signs >>> (8 * k)) & 255);
        }
        return tokens.signCount();
    }

    public void end(int n) throws IllegalArgumentException {
        if (n < 0 || n > tokens.signCount()) {
            throw new IllegalArgumentException();
        }
        tokens.cut(n);
    }

    public int read(int p) throws IndexOutOfBoundsException {
        checkProperty(p);
        propertyLexer.scan();
        int fault = propertyReader.readInto(spareProperty);
        tokens.cut(0);
        if (fault == NONE) {
            Property old = properties[p];
            properties[p] = spareProperty;
            spareProperty = old;
            empty();
            runs.forget();
            witnesses.forget();
        }
        return fault;
    }

    public int letter(int v) throws IllegalArgumentException, UnsupportedOperationException {
        if (!isLetter(v)) {
            throw new IllegalArgumentException();
        }
        if (length >= MOST_LETTERS) {
            throw new UnsupportedOperationException();
        }
        letters[length] = v;
        int failing = 0;
        for (int p = 0; p < PROPERTIES; p++) {
            if (length == 0) {
                properties[p].startRow(rows[p], 0);
            }
            boolean fails = properties[p].step(rows[p], 0, length, v);
            if (fails && failedAt[p] == 0) {
                failedAt[p] = length + 1;
            }
            failing |= failedAt[p] == 0 ? 0 : 1 << p;
        }
        length++;
        return failing;
    }

    public void clear() {
        empty();
    }

    public int word(int what) throws IllegalArgumentException {
        if (what < 0 || what > PROPERTIES) {
            throw new IllegalArgumentException();
        }
        return what == 0 ? length : failedAt[what - 1];
    }

    public boolean row(int p, int i, int j)
            throws IndexOutOfBoundsException, IllegalArgumentException, IllegalStateException {
        checkRow(p, i, j);
        Sequence sequence = properties[p].sequence(0);
        return sequence.accepts(statesBehind(sequence, i, j));
    }

    public boolean goesOn(int p, int i, int j)
            throws IndexOutOfBoundsException, IllegalArgumentException, IllegalStateException {
        checkRow(p, i, j);
        Sequence sequence = properties[p].sequence(0);
        return sequence.canGoOn(statesBehind(sequence, i, j));
    }

    public int classes(int p)
            throws IndexOutOfBoundsException, IllegalStateException, UnsupportedOperationException {
        checkClasses(p);
        return properties[p].classesOf(0).count();
    }

    public int classOf(int p, int i, int j) throws IndexOutOfBoundsException, IllegalArgumentException,
            IllegalStateException, UnsupportedOperationException {
        checkRow(p, i, j);
        checkClasses(p);
        return properties[p].classesOf(0).ofRow(letters, i, j);
    }

    public int classBehind(int p, int c, int letter) throws IndexOutOfBoundsException, IllegalStateException,
            UnsupportedOperationException, IllegalArgumentException {
        checkClasses(p);
        Classes classes = properties[p].classesOf(0);
        if (c < 0 || c >= classes.count() || !isLetter(letter)) {
            throw new IllegalArgumentException();
        }
        return classes.behind(c, letter);
    }

    public int kind(int p, int c) throws IndexOutOfBoundsException, IllegalStateException,
            UnsupportedOperationException, IllegalArgumentException {
        checkClasses(p);
        Classes classes = properties[p].classesOf(0);
        if (c < 0 || c >= classes.count()) {
            throw new IllegalArgumentException();
        }
        return classes.kindOf(c);
    }

    public int flops(int p) throws IndexOutOfBoundsException, UnsupportedOperationException {
        checkSmall(p);
        return properties[p].flopCount();
    }

    public boolean flop(int p, int k)
            throws IndexOutOfBoundsException, UnsupportedOperationException, NoSuchElementException {
        checkSmall(p);
        int count = properties[p].flopCount();
        if (k < 0 || k >= count) {
            throw new NoSuchElementException();
        }
        // Without a letter there is no place yet at which anything began.
        if (k == 0 || length == 0) {
            return k == 0 && length == 0;
        }
        if (k == count - 1) {
            return failedAt[p] != 0;
        }
        return properties[p].partFlop(k - 1, rows[p], letters, length);
    }

    public int readDesign() {
        int fault = designReader.readInto(spareCircuit);
        takeSpareCircuit(fault);
        return fault;
    }

    public int readNumbers() {
        int fault = numbersReader.readInto(spareCircuit);
        takeSpareCircuit(fault);
        return fault;
    }

    public int number(int k) throws IndexOutOfBoundsException {
        if (k < 0) {
            throw new IndexOutOfBoundsException();
        }
        return circuit.writtenSign(k);
    }

    public int has(int what) throws IllegalArgumentException {
        if (what < 0 || what >= 3 + SIGNALS) {
            throw new IllegalArgumentException();
        }
        if (what >= 3) {
            return circuit.signalLiteral(what - 3);
        }
        return what == 0 ? circuit.inputs() : what == 1 ? circuit.latches() : circuit.gates();
    }

    public void design(int inputs, int latches) throws IllegalArgumentException {
        if (inputs < 1 || inputs > Design.MOST_INPUTS || latches < 0 || latches > Design.MOST_LATCHES) {
            throw new IllegalArgumentException();
        }
        circuit.reset(inputs, latches);
        runs.forget();
    }

    public int gate(int one, int two) throws IllegalArgumentException, UnsupportedOperationException {
        if (!circuit.isLiteral(one) || !circuit.isLiteral(two)) {
            throw new IllegalArgumentException();
        }
        if (circuit.gates() >= Design.MOST_GATES) {
            throw new UnsupportedOperationException();
        }
        runs.forget();
        return circuit.addGate(one, two);
    }

    public void latch(int k, int next, boolean first) throws IllegalArgumentException {
        if (k < 0 || k >= circuit.latches() || !circuit.isLiteral(next)) {
            throw new IllegalArgumentException();
        }
        circuit.setNext(k, next);
        circuit.setFirst(k, first);
        runs.forget();
    }

    public void signal(int k, int literal) throws IllegalArgumentException {
        if (k < 0 || k >= SIGNALS || !circuit.isLiteral(literal)) {
            throw new IllegalArgumentException();
        }
        circuit.setSignal(k, literal);
        runs.forget();
    }

    public int search(int p, int k)
            throws IndexOutOfBoundsException, IllegalArgumentException, UnsupportedOperationException {
        checkProperty(p);
        checkLook(circuit.inputs(), k, properties[p].isSmall());
        looks++;
        return runs.seek(properties[p], truth, circuit, k);
    }

    public int run(int t, int what)
            throws IllegalStateException, IndexOutOfBoundsException, IllegalArgumentException {
        checkFound(runs, t);
        if (what < 0 || what > 2) {
            throw new IllegalArgumentException();
        }
        return what == 0 ? runs.inputsAt(t) : what == 1 ? runs.letterAt(t) : runs.latchesAt(t);
    }

    public int differ(int n, int k) throws IllegalArgumentException, UnsupportedOperationException {
        if (n < 1 || n > Design.MOST_INPUTS) {
            throw new IllegalArgumentException();
        }
        checkLook(n, k, properties[0].isSmall() && properties[1].isSmall());
        looks++;
        wires.reset(n, 0);
        for (int s = 0; s < SIGNALS; s++) {
            wires.setSignal(s, s < n ? 2 * (s + 1) : 0);
        }
        return witnesses.seek(properties[0], properties[1], wires, k);
    }

    public int witness(int t) throws IllegalStateException, IndexOutOfBoundsException {
        checkFound(witnesses, t);
        return witnesses.letterAt(t);
    }

    private static boolean isLetter(int v) {
        return v >= 0 && v < LETTERS;
    }

    private static void checkProperty(int p) {
        if (p < 0 || p >= PROPERTIES) {
            throw new IndexOutOfBoundsException();
        }
    }

    private void checkRow(int p, int i, int j) {
        checkProperty(p);
        if (i < 0 || i > j || j > length) {
            throw new IllegalArgumentException();
        }
        checkSequence(p);
    }

    private void checkSequence(int p) {
        if (properties[p].sequenceCount() == 0) {
            throw new IllegalStateException();
        }
    }

    private void checkClasses(int p) {
        checkProperty(p);
        checkSequence(p);
        if (properties[p].sequence(0).weight() > SMALL_WEIGHT) {
            throw new UnsupportedOperationException();
        }
    }

    private void checkSmall(int p) {
        checkProperty(p);
        if (!properties[p].isSmall()) {
            throw new UnsupportedOperationException();
        }
    }

    private void checkLook(int width, int k, boolean small) {
        // As longs, for a great k must not wrap round to a small product.
        if (k < 1 || (long) width * k > (small ? 12 : 9)) {
            throw new IllegalArgumentException();
        }
        if (looks >= MOST_LOOKS) {
            throw new UnsupportedOperationException();
        }
    }

    private static void checkFound(Hunt hunt, int t) {
        if (hunt.found() == 0) {
            throw new IllegalStateException();
        }
        if (t < 0 || t >= hunt.found()) {
            throw new IndexOutOfBoundsException();
        }
    }

    private long statesBehind(Sequence sequence, int i, int j) {
        long states = Sequence.START;
        for (int place = i; place < j; place++) {
            states = sequence.next(states, letters[place]);
        }
        return states;
    }

    private void takeSpareCircuit(int fault) {
        tokens.cut(0);
        if (fault == NONE) {
            Design old = circuit;
            circuit = spareCircuit;
            spareCircuit = old;
            runs.forget();
        }
    }

    private void empty() {
        length = 0;
        for (int p = 0; p < PROPERTIES; p++) {
            failedAt[p] = 0;
        }
    }

    /** The text, and the tokens that one of the readers has found in it; the first fault told stands. */
    private static final class Tokens {
        static final int END = 0;
        static final int BAD = 1;
        static final int STOPPED = 2;
        static final int SIGNAL = 3;
        static final int ZERO = 4;
        static final int ONE = 5;
        static final int NOT = 6;
        static final int AND = 7;
        static final int OR = 8;
        static final int SEMICOLON = 9;
        static final int COLON = 10;
        static final int EITHER = 11;
        static final int BOTH = 12;
        static final int OPEN_BRACE = 13;
        static final int CLOSE_BRACE = 14;
        static final int OPEN = 15;
        static final int CLOSE = 16;
        static final int IMPLIES = 17;
        static final int OVERLAPS = 18;
        static final int FOLLOWS = 19;
        static final int STAR = 20;
        static final int PLUS = 21;
        static final int TIMES = 22;
        static final int ARROWS = 23;
        static final int EXACTLY = 24;
        static final int INDEX = 25;
        static final int ALWAYS = 26;
        static final int NEVER = 27;
        static final int NEXT = 28;
        static final int UNTIL = 29;
        static final int BEFORE = 30;
        static final int AND_WORD = 31;
        static final int NAME = 32;
        static final int INPUT = 33;
        static final int LATCH = 34;
        static final int WIRE = 35;
        static final int SIGNAL_WORD = 36;
        static final int EQUALS = 37;
        static final int XOR = 38;
        static final int AAG = 39;
        static final int NUMBER = 40;

        private static final int MOST_TOKENS = MOST_SIGNS + 1;

        private final int[] signs = new int[MOST_SIGNS];
        private final int[] kinds = new int[MOST_TOKENS];
        private final int[] places = new int[MOST_TOKENS];
        private final int[] lows = new int[MOST_TOKENS];
        private final int[] highs = new int[MOST_TOKENS];
        private final long[] names = new long[MOST_TOKENS];
        private int signCount;
        private int count;
        private int at;
        private int fault = NONE;

        int signCount() {
            return signCount;
        }

        void addSign(int sign) {
            if (sign != 0 && signCount < MOST_SIGNS) {
                signs[signCount] = sign;
                signCount++;
            }
        }

        void cut(int n) {
            signCount = n;
        }

        int signAt(int place) {
            return place >= 0 && place < signCount ? signs[place] : 0;
        }

        boolean isDigitAt(int place) {
            return signAt(place) >= '0' && signAt(place) <= '9';
        }

        boolean isSmallAt(int place) {
            return signAt(place) >= 'a' && signAt(place) <= 'z';
        }

        boolean reads(int place, String signsWanted) {
            for (int k = 0; k < signsWanted.length(); k++) {
                if (signAt(place + k) != signsWanted.charAt(k)) {
                    return false;
                }
            }
            return true;
        }

        int wordLength(int place) {
            int size = 0;
            while (size < MOST_SIGNS && isSmallAt(place + size)) {
                size++;
            }
            return size;
        }

        boolean isWord(int place, int size, String wanted) {
            return size == wanted.length() && reads(place, wanted);
        }

        void restart() {
            count = 0;
            at = 0;
            fault = NONE;
        }

        /** Adds a token, and answers the place behind it. */
        int add(int kind, int place, int size) {
            return addCounted(kind, place, size, 0, 0);
        }

        int addCounted(int kind, int place, int size, int low, int high) {
            if (count < MOST_TOKENS) {
                kinds[count] = kind;
                places[count] = place;
                lows[count] = low;
                highs[count] = high;
                names[count] = 0;
                count++;
            }
            return place + size;
        }

        int addName(int place, int size) {
            int behind = add(NAME, place, size);
            long name = 0;
            for (int k = 0; k < size; k++) {
                name = name << 5 | signAt(place + k) - 'a' + 1;
            }
            names[count - 1] = name;
            return behind;
        }

        /** What stands behind a sign that begins no token is never looked at. */
        int addBad(int place) {
            addCounted(BAD, place, 0, 0, 0);
            return signCount;
        }

        void finish() {
            add(END, signCount, 0);
        }

        int now() {
            return fault != NONE || at >= count ? STOPPED : kinds[at];
        }

        int place() {
            return at < count ? places[at] : signCount;
        }

        int low() {
            return at < count ? lows[at] : 0;
        }

        int high() {
            return at < count ? highs[at] : 0;
        }

        long name() {
            return at < count ? names[at] : 0;
        }

        void advance() {
            if (fault == NONE && at < count) {
                at++;
            }
        }

        /** Goes over a token of this kind, or tells the fault. */
        void take(int kind) {
            if (now() == kind) {
                advance();
            } else {
                refuse();
            }
        }

        void refuse() {
            if (fault == NONE) {
                fault = at < count ? places[at] : signCount;
            }
        }

        void refuseAt(int place) {
            if (fault == NONE) {
                fault = place;
            }
        }

        boolean isFaulty() {
            return fault != NONE;
        }

        int fault() {
            return fault;
        }
    }

    /** Finds the tokens of a property's text. */
    private static final class PropertyLexer {
        private final Tokens tokens;

        PropertyLexer(Tokens tokens) {
            this.tokens = tokens;
        }

        void scan() {
            tokens.restart();
            int place = 0;
            for (int n = 0; n < MOST_SIGNS && place < tokens.signCount(); n++) {
                place = scanOne(place);
            }
            tokens.finish();
        }

        private int scanOne(int place) {
            switch (tokens.signAt(place)) {
                case ' ':
                    return place + 1;
                case '[':
                    return scanBracket(place);
                case '|':
                    return scanBar(place);
                case '&':
                    return tokens.reads(place, "&&")
                            ? tokens.add(Tokens.BOTH, place, 2) : tokens.add(Tokens.AND, place, 1);
                case '-':
                    return tokens.reads(place, "->")
                            ? tokens.add(Tokens.IMPLIES, place, 2) : tokens.addBad(place);
                case '0':
                    return tokens.add(Tokens.ZERO, place, 1);
                case '1':
                    return tokens.add(Tokens.ONE, place, 1);
                case '!':
                    return tokens.add(Tokens.NOT, place, 1);
                case ';':
                    return tokens.add(Tokens.SEMICOLON, place, 1);
                case ':':
                    return tokens.add(Tokens.COLON, place, 1);
                case '{':
                    return tokens.add(Tokens.OPEN_BRACE, place, 1);
                case '}':
                    return tokens.add(Tokens.CLOSE_BRACE, place, 1);
                case '(':
                    return tokens.add(Tokens.OPEN, place, 1);
                case ')':
                    return tokens.add(Tokens.CLOSE, place, 1);
                default:
                    return tokens.isSmallAt(place) ? scanWord(place) : tokens.addBad(place);
            }
        }

        private int scanBar(int place) {
            if (tokens.reads(place, "|->")) {
                return tokens.add(Tokens.OVERLAPS, place, 3);
            }
            if (tokens.reads(place, "|=>")) {
                return tokens.add(Tokens.FOLLOWS, place, 3);
            }
            return tokens.reads(place, "||")
                    ? tokens.add(Tokens.EITHER, place, 2) : tokens.add(Tokens.OR, place, 1);
        }

        private int scanWord(int place) {
            int size = tokens.wordLength(place);
            int first = tokens.signAt(place) - 'a';
            if (size == 1 && first < SIGNALS) {
                return tokens.addCounted(Tokens.SIGNAL, place, size, first, first);
            }
            int kind = wordKind(place, size);
            return kind == Tokens.BAD ? tokens.addBad(place) : tokens.add(kind, place, size);
        }

        private int wordKind(int place, int size) {
            if (tokens.isWord(place, size, "always")) {
                return Tokens.ALWAYS;
            }
            if (tokens.isWord(place, size, "never")) {
                return Tokens.NEVER;
            }
            if (tokens.isWord(place, size, "next")) {
                return Tokens.NEXT;
            }
            if (tokens.isWord(place, size, "until")) {
                return Tokens.UNTIL;
            }
            if (tokens.isWord(place, size, "before")) {
                return Tokens.BEFORE;
            }
            return tokens.isWord(place, size, "and") ? Tokens.AND_WORD : Tokens.BAD;
        }

        private int scanBracket(int place) {
            if (tokens.reads(place, "[*]")) {
                return tokens.add(Tokens.STAR, place, 3);
            }
            if (tokens.reads(place, "[+]")) {
                return tokens.add(Tokens.PLUS, place, 3);
            }
            if (tokens.reads(place, "[*") && tokens.reads(place + 3, "..")) {
                return scanRange(place);
            }
            if (tokens.reads(place, "[*")) {
                return scanCount(Tokens.TIMES, place, 2);
            }
            if (tokens.reads(place, "[->")) {
                return scanCount(Tokens.ARROWS, place, 3);
            }
            return tokens.reads(place, "[=")
                    ? scanCount(Tokens.EXACTLY, place, 2) : scanCount(Tokens.INDEX, place, 1);
        }

        private int scanCount(int kind, int place, int ahead) {
            if (!tokens.isDigitAt(place + ahead) || tokens.signAt(place + ahead + 1) != ']') {
                return tokens.addBad(place);
            }
            int n = tokens.signAt(place + ahead) - '0';
            return tokens.addCounted(kind, place, ahead + 2, n, n);
        }

        private int scanRange(int place) {
            if (!tokens.isDigitAt(place + 2) || !tokens.isDigitAt(place + 5)
                    || tokens.signAt(place + 6) != ']') {
                return tokens.addBad(place);
            }
            int low = tokens.signAt(place + 2) - '0';
            int high = tokens.signAt(place + 5) - '0';
            return tokens.addCounted(Tokens.TIMES, place, 7, low, high);
        }
    }

    /**
     * Reads a property's text. What is open is kept on stacks, not on Java's, so that the modes below
     * are all that has to be known at a token.
     */
    private static final class PropertyReader {
        private static final int WANT_PROPERTY = 0;
        private static final int PROPERTY_ENDED = 1;
        private static final int WANT_ITEM = 2;
        private static final int ITEM_ENDED = 3;
        private static final int DONE = 4;

        private static final int MOST_TURNS = 4 * MOST_SIGNS;
        private static final int MOST_WEIGHT = 40;

        /** Of each signal the letters that have it, a bit each. */
        private static final long[] LETTERS_WITH = {
            0xAAAAAAAAAAAAAAAAL, 0xCCCCCCCCCCCCCCCCL, 0xF0F0F0F0F0F0F0F0L,
            0xFF00FF00FF00FF00L, 0xFFFF0000FFFF0000L, 0xFFFFFFFF00000000L,
        };

        private static final int BRACE = 0;
        private static final int CHAIN_RANK = 1;
        private static final int OVERLAP_RANK = 2;
        private static final int EITHER_RANK = 3;
        private static final int BOTH_RANK = 4;

        private final Tokens tokens;
        private final Weaver weaver = new Weaver();
        private final int[] parens = new int[MOST_OPEN];
        private final boolean[] lefts = new boolean[MOST_OPEN];
        private final int[] joints = new int[MOST_SIGNS];
        private int parenCount;
        private int jointCount;
        private int open;
        private int mode;
        private int sequencePlace;
        private int sequencePart;
        private int signalsSeen;

        PropertyReader(Tokens tokens) {
            this.tokens = tokens;
        }

        int readInto(Property target) {
            target.reset();
            parenCount = 0;
            jointCount = 0;
            open = 0;
            mode = WANT_PROPERTY;
            for (int turn = 0; turn < MOST_TURNS && mode != DONE && !tokens.isFaulty(); turn++) {
                if (mode == WANT_PROPERTY) {
                    wantProperty(target);
                } else if (mode == PROPERTY_ENDED) {
                    propertyEnded(target);
                } else if (mode == WANT_ITEM) {
                    wantItem();
                } else {
                    itemEnded(target);
                }
            }
            target.layOut();
            return tokens.fault();
        }

        private void wantProperty(Property target) {
            switch (tokens.now()) {
                case Tokens.ALWAYS:
                    target.add(Property.ALWAYS);
                    tokens.advance();
                    break;
                case Tokens.NEVER:
                    tokens.advance();
                    openSequence(target, Property.NEVER);
                    break;
                case Tokens.NEXT:
                    wantNext(target);
                    break;
                case Tokens.OPEN:
                    openParen(target);
                    break;
                case Tokens.OPEN_BRACE:
                    openSequence(target, Property.PLAIN);
                    break;
                default:
                    wantCondition(target);
                    break;
            }
        }

        private void wantNext(Property target) {
            int part = target.add(Property.NEXT);
            tokens.advance();
            if (tokens.now() == Tokens.INDEX) {
                target.setCount(part, tokens.low());
                tokens.advance();
            }
        }

        private void wantCondition(Property target) {
            long mask = condition();
            if (tokens.isFaulty()) {
                return;
            }
            if (tokens.now() == Tokens.IMPLIES) {
                target.setConditions(target.add(Property.IMPLIES), mask, 0);
                tokens.advance();
            } else {
                target.setConditions(target.add(Property.CONDITION), mask, 0);
                mode = PROPERTY_ENDED;
            }
        }

        private void openParen(Property target) {
            if (open >= MOST_OPEN) {
                tokens.refuse();
                return;
            }
            // Which of the three kinds it is shows only behind its first property.
            parens[parenCount] = target.add(Property.PAIR);
            lefts[parenCount] = true;
            parenCount++;
            open++;
            tokens.advance();
        }

        private void propertyEnded(Property target) {
            if (parenCount == 0) {
                tokens.take(Tokens.END);
                mode = DONE;
            } else if (lefts[parenCount - 1]) {
                joinProperties(target, parens[parenCount - 1]);
            } else {
                closeParen();
            }
        }

        private void joinProperties(Property target, int part) {
            int kind = tokens.now();
            if (kind == Tokens.AND_WORD) {
                tokens.advance();
                target.setRight(part);
                lefts[parenCount - 1] = false;
                mode = WANT_PROPERTY;
            } else if (kind == Tokens.UNTIL) {
                tokens.advance();
                target.setConditions(part, condition(), 0);
                target.setKind(part, Property.UNTIL);
                closeParen();
            } else if (kind == Tokens.BEFORE && target.endsWithCondition(part + 1)) {
                tokens.advance();
                // A condition ahead of before is no part.
                long ahead = target.dropCondition();
                target.setConditions(part, ahead, condition());
                target.setKind(part, Property.BEFORE);
                closeParen();
            } else {
                tokens.refuse();
            }
        }

        private void closeParen() {
            tokens.take(Tokens.CLOSE);
            parenCount--;
            open--;
            mode = PROPERTY_ENDED;
        }

        private void openSequence(Property target, int kind) {
            sequencePart = target.add(kind);
            sequencePlace = tokens.place();
            signalsSeen = 0;
            weaver.restart();
            openBrace();
            mode = WANT_ITEM;
        }

        private void openBrace() {
            if (tokens.now() != Tokens.OPEN_BRACE || open >= MOST_OPEN) {
                tokens.refuse();
                return;
            }
            pushJoint(BRACE);
            open++;
            tokens.advance();
        }

        private void wantItem() {
            if (tokens.now() == Tokens.OPEN_BRACE) {
                openBrace();
                return;
            }
            weaver.addCondition(condition());
            repeat(true);
            mode = ITEM_ENDED;
        }

        private void repeat(boolean behindCondition) {
            int low = tokens.low();
            int high = tokens.high();
            switch (tokens.now()) {
                case Tokens.STAR:
                    weaver.star(true);
                    break;
                case Tokens.PLUS:
                    weaver.star(false);
                    break;
                case Tokens.TIMES:
                    if (high < low) {
                        tokens.refuse();
                        return;
                    }
                    weaver.times(low, high);
                    break;
                case Tokens.ARROWS:
                    if (!behindCondition || low == 0) {
                        tokens.refuse();
                        return;
                    }
                    weaver.countCondition(low, false);
                    break;
                case Tokens.EXACTLY:
                    if (!behindCondition) {
                        tokens.refuse();
                        return;
                    }
                    weaver.countCondition(low, true);
                    break;
                default:
                    return;
            }
            tokens.advance();
        }

        private void itemEnded(Property target) {
            int rank = rankOf(tokens.now());
            if (rank > BRACE) {
                joinItems(rank);
                pushJoint(rank);
                tokens.advance();
                mode = WANT_ITEM;
            } else if (tokens.now() == Tokens.CLOSE_BRACE) {
                closeBrace(target);
            } else {
                tokens.refuse();
            }
        }

        private static int rankOf(int kind) {
            switch (kind) {
                case Tokens.SEMICOLON:
                    return CHAIN_RANK;
                case Tokens.COLON:
                    return OVERLAP_RANK;
                case Tokens.EITHER:
                    return EITHER_RANK;
                case Tokens.BOTH:
                    return BOTH_RANK;
                default:
                    return BRACE;
            }
        }

        private void pushJoint(int rank) {
            if (jointCount < MOST_SIGNS) {
                joints[jointCount] = rank;
                jointCount++;
            }
        }

        /** Weaves what binds as closely as this rank, or closer, up to the brace that is open. */
        private void joinItems(int rank) {
            for (int n = jointCount; n > 0 && joints[n - 1] >= rank; n--) {
                switch (joints[n - 1]) {
                    case CHAIN_RANK:
                        weaver.chain();
                        break;
                    case OVERLAP_RANK:
                        weaver.overlap();
                        break;
                    case EITHER_RANK:
                        weaver.either();
                        break;
                    default:
                        weaver.both();
                        break;
                }
                jointCount--;
            }
        }

        private void closeBrace(Property target) {
            joinItems(CHAIN_RANK);
            jointCount--;
            open--;
            tokens.advance();
            if (jointCount > 0) {
                repeat(false);
            } else if (weaver.weight() > MOST_WEIGHT) {
                tokens.refuseAt(sequencePlace);
            } else {
                weaver.finish(target.addSequence(sequencePart), signalsSeen);
                behindSequence(target);
            }
        }

        private void behindSequence(Property target) {
            int kind = tokens.now();
            boolean joins = kind == Tokens.OVERLAPS || kind == Tokens.FOLLOWS;
            if (joins && target.kindOf(sequencePart) == Property.PLAIN) {
                target.setKind(sequencePart, kind == Tokens.OVERLAPS ? Property.OVERLAPS : Property.FOLLOWS);
                tokens.advance();
                mode = WANT_PROPERTY;
            } else {
                mode = PROPERTY_ENDED;
            }
        }

        /** The letters of which a condition holds, a bit each. */
        private long condition() {
            long any = 0;
            long all = holding();
            for (int n = 0; n < MOST_SIGNS; n++) {
                int kind = tokens.now();
                if (kind != Tokens.AND && kind != Tokens.OR) {
                    break;
                }
                tokens.advance();
                any |= kind == Tokens.OR ? all : 0;
                all = kind == Tokens.OR ? holding() : all & holding();
            }
            return any | all;
        }

        private long holding() {
            boolean not = tokens.now() == Tokens.NOT;
            if (not) {
                tokens.advance();
            }
            long mask = 0;
            if (tokens.now() == Tokens.SIGNAL) {
                mask = LETTERS_WITH[tokens.low()];
                signalsSeen |= 1 << tokens.low();
                tokens.advance();
            } else if (tokens.now() == Tokens.ONE) {
                mask = ~0L;
                tokens.advance();
            } else {
                tokens.take(Tokens.ZERO);
            }
            return not ? ~mask : mask;
        }
    }

    /**
     * Weaves a sequence: a stack of pieces, each with states in one common room, where a state is entered
     * with a letter. The steps from a state (a bit for each state they lead to) stand apart from the masks
     * of the letters that take them, as wild letters take them all. A piece is entered by its first states,
     * with the letters of their heads, and left by its last ones.
     */
    private static final class Weaver {
        private static final int MOST_STATES = 41;
        /** A piece takes two signs with its joint. */
        private static final int MOST_PIECES = MOST_SIGNS / 2 + 1;
        private static final int WEIGHT_CAP = 1000;

        private final long[] steps = new long[MOST_STATES];
        private final long[] masks = new long[MOST_STATES * MOST_STATES];
        private final long[] heads = new long[MOST_STATES];
        private final int[] weights = new int[MOST_PIECES];
        private final int[] froms = new int[MOST_PIECES];
        private final long[] firsts = new long[MOST_PIECES];
        private final long[] lasts = new long[MOST_PIECES];
        private final boolean[] empties = new boolean[MOST_PIECES];
        private int pieces;
        private int used;
        private boolean full;

        void restart() {
            pieces = 0;
            used = 0;
            full = false;
        }

        int weight() {
            return pieces > 0 ? weights[pieces - 1] : 0;
        }

        /**
         * Room for more states. Their number never passes the weight, so that without room the sequence
         * is too great, and only its weight is still wanted.
         */
        private boolean takeRoom(int more) {
            if (full || used + more >= MOST_STATES) {
                full = true;
                return false;
            }
            for (int k = 1; k <= more; k++) {
                steps[used + k] = 0;
                heads[used + k] = 0;
            }
            used += more;
            return true;
        }

        void addCondition(long mask) {
            if (pieces >= MOST_PIECES) {
                return;
            }
            boolean room = takeRoom(1);
            long state = room ? 1L << used : 0;
            if (room) {
                heads[used] = mask;
            }
            weights[pieces] = 1;
            froms[pieces] = used;
            firsts[pieces] = state;
            lasts[pieces] = state;
            empties[pieces] = false;
            pieces++;
        }

        private static boolean isIn(long states, int state) {
            return (states >>> state & 1) != 0;
        }

        private void addStep(int from, int to, long mask) {
            int at = from * MOST_STATES + to;
            masks[at] = (steps[from] >>> to & 1) != 0 ? masks[at] | mask : mask;
            steps[from] |= 1L << to;
        }

        /** Steps from the ends of one piece to the beginnings of another. */
        private void addSteps(long ends, long beginnings) {
            for (int end = 1; end <= used; end++) {
                if (!isIn(ends, end)) {
                    continue;
                }
                for (int first = 1; first <= used; first++) {
                    if (isIn(beginnings, first)) {
                        addStep(end, first, heads[first]);
                    }
                }
            }
        }

        private boolean mergeTwo(int weight) {
            if (pieces < 2) {
                return false;
            }
            pieces--;
            weights[pieces - 1] = Math.min(weight, WEIGHT_CAP);
            return !full;
        }

        private int weightsTogether() {
            return pieces < 2 ? 0 : weights[pieces - 1] + weights[pieces - 2];
        }

        void chain() {
            if (!mergeTwo(weightsTogether())) {
                return;
            }
            int r = pieces - 1;
            int s = pieces;
            addSteps(lasts[r], firsts[s]);
            firsts[r] |= empties[r] ? firsts[s] : 0;
            lasts[r] = lasts[s] | (empties[s] ? lasts[r] : 0);
            empties[r] = empties[r] && empties[s];
        }

        void either() {
            if (!mergeTwo(weightsTogether())) {
                return;
            }
            int r = pieces - 1;
            int s = pieces;
            firsts[r] |= firsts[s];
            lasts[r] |= lasts[s];
            empties[r] = empties[r] || empties[s];
        }

        /** The letter that two rows share takes r's last step and s's first one in one. */
        void overlap() {
            if (!mergeTwo(weightsTogether())) {
                return;
            }
            int r = pieces - 1;
            int s = pieces;
            for (int from = froms[r]; from < froms[s]; from++) {
                long ends = steps[from] & lasts[r];
                if (ends != 0) {
                    shareSteps(from, stepMask(from, ends), firsts[s]);
                }
            }
            long single = firsts[r] & lasts[r];
            long entry = headMask(single);
            for (int first = froms[s]; first <= used; first++) {
                heads[first] &= isIn(firsts[s], first) ? entry : ~0L;
            }
            firsts[r] |= single != 0 ? firsts[s] : 0;
            lasts[r] = lasts[s];
            empties[r] = false;
        }

        private long stepMask(int from, long ends) {
            long mask = 0;
            for (int end = 1; end <= used; end++) {
                mask |= isIn(ends, end) ? masks[from * MOST_STATES + end] : 0;
            }
            return mask;
        }

        private long headMask(long states) {
            long mask = 0;
            for (int state = 1; state <= used; state++) {
                mask |= isIn(states, state) ? heads[state] : 0;
            }
            return mask;
        }

        private void shareSteps(int from, long mask, long beginnings) {
            for (int first = 1; first <= used; first++) {
                if (isIn(beginnings, first)) {
                    addStep(from, first, mask & heads[first]);
                }
            }
        }

        /** Pairs of states, one of each piece, that take their steps together. */
        void both() {
            int weight = pieces < 2 ? 0 : (weights[pieces - 1] + 1) * (weights[pieces - 2] + 1);
            if (!mergeTwo(weight)) {
                return;
            }
            int r = pieces - 1;
            int s = pieces;
            int base = used + 1;
            int width = base - froms[s];
            if (width < 1 || !takeRoom((froms[s] - froms[r]) * width)) {
                return;
            }
            long firstPairs = 0;
            long lastPairs = 0;
            for (int pair = base; pair <= used; pair++) {
                int one = froms[r] + (pair - base) / width;
                int two = froms[s] + (pair - base) % width;
                heads[pair] = heads[one] & heads[two];
                firstPairs |= isIn(firsts[r], one) && isIn(firsts[s], two) ? 1L << pair : 0;
                lastPairs |= isIn(lasts[r], one) && isIn(lasts[s], two) ? 1L << pair : 0;
                for (int next = base; next <= used; next++) {
                    addPairStep(pair, next, one * MOST_STATES + froms[r] + (next - base) / width,
                            two * MOST_STATES + froms[s] + (next - base) % width);
                }
            }
            firsts[r] = firstPairs;
            lasts[r] = lastPairs;
            empties[r] = empties[r] && empties[s];
        }

        private void addPairStep(int pair, int next, int one, int two) {
            if (isIn(steps[one / MOST_STATES], one % MOST_STATES)
                    && isIn(steps[two / MOST_STATES], two % MOST_STATES)) {
                addStep(pair, next, masks[one] & masks[two]);
            }
        }

        void star(boolean perhapsNone) {
            if (full || pieces < 1) {
                return;
            }
            addSteps(lasts[pieces - 1], firsts[pieces - 1]);
            empties[pieces - 1] = empties[pieces - 1] || perhapsNone;
        }

        void times(int low, int high) {
            if (pieces < 1) {
                return;
            }
            int r = pieces - 1;
            weights[r] = Math.min(weights[r] * Math.max(high, 1), WEIGHT_CAP);
            int size = used - froms[r] + 1;
            if (full || !takeRoom(size * (Math.max(high, 1) - 1))) {
                return;
            }
            if (high < 1) {
                firsts[r] = 0;
                lasts[r] = 0;
                empties[r] = true;
                return;
            }
            int least = empties[r] ? 0 : low;
            long ends = lasts[r];
            long kept = least <= 1 ? ends : 0;
            for (int copy = 1; copy < high; copy++) {
                copyStates(froms[r], size, size * copy);
                addSteps(ends << (size * (copy - 1)), firsts[r] << (size * copy));
                kept |= copy + 1 >= least ? ends << (size * copy) : 0;
            }
            lasts[r] = kept;
            empties[r] = least == 0;
        }

        /** Copies the first piece's own steps; those behind it, to a next copy, are no steps of its own. */
        private void copyStates(int from, int size, int shift) {
            for (int state = from; state < from + size; state++) {
                heads[state + shift] = heads[state];
                for (int to = from; to < from + size; to++) {
                    if (isIn(steps[state], to)) {
                        addStep(state + shift, to + shift, masks[state * MOST_STATES + to]);
                    }
                }
            }
        }

        /**
         * Makes c, which came last, c[->n] or c[=n]: by turns a state that waits without c, and one behind
         * a letter with c; for c[=n] one more that waits.
         */
        void countCondition(int n, boolean waitsBehind) {
            if (pieces < 1) {
                return;
            }
            int r = pieces - 1;
            int states = 2 * n + (waitsBehind ? 1 : 0);
            weights[r] = states;
            if (full || !takeRoom(states - 1)) {
                return;
            }
            int from = froms[r];
            long with = heads[from];
            for (int state = from; state <= used; state++) {
                boolean waits = (state - from) % 2 == 0;
                int nextWith = waits ? state + 1 : state + 2;
                heads[state] = waits ? ~with : with;
                if (waits || state < used) {
                    addStep(state, waits ? state : state + 1, ~with);
                }
                if (nextWith <= used) {
                    addStep(state, nextWith, with);
                }
            }
            firsts[r] = n > 0 ? 3L << from : 1L << from;
            lasts[r] = waitsBehind && n > 0 ? 3L << (used - 1) : 1L << used;
            empties[r] = n == 0;
        }

        void finish(Sequence sequence, int signals) {
            if (full || pieces != 1) {
                return;
            }
            steps[0] = 0;
            for (int first = 1; first <= used; first++) {
                if (isIn(firsts[0], first)) {
                    addStep(0, first, heads[first]);
                }
            }
            long accepting = lasts[0] | (empties[0] ? Sequence.START : 0);
            sequence.set(used + 1, weights[0], signals, accepting, leadingTo(accepting));
            for (int from = 0; from <= used; from++) {
                for (int to = 1; to <= used; to++) {
                    if (isIn(steps[from], to)) {
                        sequence.addStep(from, to, masks[from * MOST_STATES + to]);
                    }
                }
            }
        }

        private long leadingTo(long accepting) {
            long leading = accepting;
            for (int round = 0; round <= used; round++) {
                for (int from = 0; from <= used; from++) {
                    leading |= (steps[from] & leading) != 0 ? 1L << from : 0;
                }
            }
            return leading;
        }
    }

    /**
     * A sequence as it is walked: sets of states, a bit each, of which bit 0 is that of no letter yet. Of a
     * letter only the signals count that the sequence has.
     */
    private static final class Sequence {
        static final long START = 1L;

        private static final long[] NO_STEPS = {};

        private long[] steps = NO_STEPS;
        private int states;
        private int weight;
        private int signals;
        private long accepting;
        private long leading;

        void set(int states, int weight, int signals, long accepting, long leading) {
            this.states = states;
            this.weight = weight;
            this.signals = signals;
            this.accepting = accepting;
            this.leading = leading;
            if (steps.length < states * LETTERS) {
                steps = new long[states * LETTERS];
            } else {
                Arrays.fill(steps, 0);
            }
        }

        /** States from which no row can end are left out: then a set goes on unless it is empty. */
        void addStep(int from, int to, long mask) {
            if ((leading >>> to & 1) == 0) {
                return;
            }
            int v = 0;
            for (int n = letterCount(); n > 0; n--) {
                steps[from * LETTERS + v] |= (mask >>> v & 1) << to;
                // The next letter up that has no signals but the sequence's own.
                v = (v - signals) & signals;
            }
        }

        int letterCount() {
            return 1 << Integer.bitCount(signals);
        }

        long next(long set, int letter) {
            long behind = 0;
            long rest = set;
            int at = letter & signals;
            for (int state = 0; state < states && rest != 0; state++) {
                behind |= (rest & 1) != 0 ? steps[at] : 0;
                rest >>>= 1;
                at += LETTERS;
            }
            return behind;
        }

        boolean accepts(long set) {
            return (set & accepting) != 0;
        }

        boolean canGoOn(long set) {
            return (set & leading) != 0;
        }

        int weight() {
            return weight;
        }

        int signals() {
            return signals;
        }
    }

    /** The classes of a sequence whose weight is at most six: six states at most, and the start. */
    private static final class Classes {
        static final int ROWS_OF = 3;
        static final int GOING_ON = 2;

        private static final int MOST_SETS = 66;
        private static final int[] NO_TABLE = {};

        private final long[] sets = new long[MOST_SETS];
        private final int[] kinds = new int[MOST_SETS];
        private final int[] groups = new int[MOST_SETS];
        private final int[] finer = new int[MOST_SETS];
        private int[] table = NO_TABLE;
        private int signals;
        private int letterCount;
        private int setCount;
        private int classCount;

        void forget() {
            classCount = 0;
        }

        boolean isBuilt() {
            return classCount > 0;
        }

        int count() {
            return classCount;
        }

        int kindOf(int c) {
            return kinds[c];
        }

        int behind(int c, int letter) {
            return table[c * LETTERS + (letter & signals)];
        }

        int ofRow(int[] letters, int i, int j) {
            int c = 0;
            for (int place = i; place < j; place++) {
                c = behind(c, letters[place]);
            }
            return c;
        }

        /** Whether a row of the sequence, perhaps of no letters, begins at i and ends at j or ahead. */
        boolean hasRow(int[] letters, int i, int j) {
            int c = 0;
            for (int place = i; place < j && kinds[c] != ROWS_OF; place++) {
                c = behind(c, letters[place]);
            }
            return kinds[c] == ROWS_OF;
        }

        int countKinds(int least, int greatest) {
            int found = 0;
            for (int c = 0; c < classCount; c++) {
                found += kinds[c] >= least && kinds[c] <= greatest ? 1 : 0;
            }
            return found;
        }

        int ofKinds(int least, int greatest, int k) {
            int found = 0;
            for (int c = 0; c < classCount; c++) {
                if (kinds[c] >= least && kinds[c] <= greatest) {
                    if (found == k) {
                        return c;
                    }
                    found++;
                }
            }
            return NONE;
        }

        void build(Sequence sequence) {
            if (table.length == 0) {
                table = new int[MOST_SETS * LETTERS];
            }
            signals = sequence.signals();
            letterCount = sequence.letterCount();
            exploreSets(sequence);
            group();
            boolean split = true;
            for (int round = 0; round < MOST_SETS && split; round++) {
                split = splitGroups();
            }
            numberGroups();
        }

        /** Sets are found in the order of their first rows, as letters rise and rows grow. */
        private void exploreSets(Sequence sequence) {
            sets[0] = Sequence.START;
            setCount = 1;
            for (int at = 0; at < MOST_SETS && at < setCount; at++) {
                int v = 0;
                for (int n = letterCount; n > 0; n--) {
                    table[at * LETTERS + v] = findSet(sequence.next(sets[at], v));
                    v = (v - signals) & signals;
                }
            }
            for (int at = 0; at < setCount; at++) {
                boolean of = sequence.accepts(sets[at]);
                kinds[at] = of ? ROWS_OF : sequence.canGoOn(sets[at]) ? GOING_ON : 0;
            }
        }

        private int findSet(long set) {
            for (int at = 0; at < setCount; at++) {
                if (sets[at] == set) {
                    return at;
                }
            }
            if (setCount < MOST_SETS) {
                sets[setCount] = set;
                setCount++;
            }
            return setCount - 1;
        }

        private void group() {
            for (int at = 0; at < setCount; at++) {
                int first = 0;
                while (first < at && kinds[first] != kinds[at]) {
                    first++;
                }
                groups[at] = first;
            }
        }

        /** A group is named by its first set, so that no split changes the order of the groups. */
        private boolean splitGroups() {
            boolean split = false;
            for (int at = 0; at < setCount; at++) {
                int first = groups[at];
                while (first < at && !isAlike(first, at)) {
                    first++;
                }
                finer[at] = first;
                if (first != groups[at]) {
                    split = true;
                }
            }
            System.arraycopy(finer, 0, groups, 0, setCount);
            return split;
        }

        private boolean isAlike(int one, int two) {
            boolean alike = groups[one] == groups[two];
            int v = 0;
            for (int n = letterCount; n > 0 && alike; n--) {
                alike = groups[table[one * LETTERS + v]] == groups[table[two * LETTERS + v]];
                v = (v - signals) & signals;
            }
            return alike;
        }

        private void numberGroups() {
            classCount = 0;
            for (int at = 0; at < setCount; at++) {
                if (groups[at] == at) {
                    finer[at] = classCount;
                    classCount++;
                }
            }
            // A class's number is never above its first set's, so that rows can move down in place.
            for (int at = 0; at < setCount; at++) {
                if (groups[at] == at) {
                    moveDown(at, finer[at]);
                }
            }
        }

        private void moveDown(int at, int c) {
            kinds[c] = kinds[at];
            int v = 0;
            for (int n = letterCount; n > 0; n--) {
                table[c * LETTERS + v] = finer[groups[table[at * LETTERS + v]]];
                v = (v - signals) & signals;
            }
        }
    }

    /**
     * A property: its parts in the order in which they begin in the text, so that a part's property stands
     * right behind it. What a word has done is kept in a row of numbers outside: of each part the places
     * at which it began, then of each part what is alive, then of each part { s } the states from every
     * place that is still open.
     */
    private static final class Property {
        static final int CONDITION = 0;
        static final int PLAIN = 1;
        static final int OVERLAPS = 2;
        static final int FOLLOWS = 3;
        static final int IMPLIES = 4;
        static final int ALWAYS = 5;
        static final int NEVER = 6;
        static final int NEXT = 7;
        static final int UNTIL = 8;
        static final int BEFORE = 9;
        static final int PAIR = 10;

        /** A sequence takes three signs, and three more join it to another one. */
        static final int MOST_SEQUENCES = (MOST_SIGNS + 3) / 6;
        /** A part takes three signs, but for one that a ( begins, as long as that is open, and the last. */
        static final int MOST_PARTS = MOST_SIGNS / 3 + MOST_OPEN + 2;
        static final int MOST_ROW = 2 * MOST_PARTS + MOST_LETTERS * MOST_SEQUENCES;

        private static final int SMALL_SEQUENCES = 4;

        private final int[] kinds = new int[MOST_PARTS];
        private final long[] conditions = new long[MOST_PARTS];
        private final long[] seconds = new long[MOST_PARTS];
        private final int[] counts = new int[MOST_PARTS];
        private final int[] links = new int[MOST_PARTS];
        private final int[] slots = new int[MOST_PARTS];
        private final Sequence[] sequences = new Sequence[MOST_SEQUENCES];
        private final Classes[] classes = new Classes[SMALL_SEQUENCES];
        private int parts;
        private int sequenceCount;
        private int rowSize;

        /** At first the condition 1. */
        Property() {
            for (int k = 0; k < MOST_SEQUENCES; k++) {
                sequences[k] = new Sequence();
            }
            for (int k = 0; k < SMALL_SEQUENCES; k++) {
                classes[k] = new Classes();
            }
            parts = 1;
            conditions[0] = ~0L;
            rowSize = 2;
        }

        void reset() {
            parts = 0;
            sequenceCount = 0;
            for (int k = 0; k < SMALL_SEQUENCES; k++) {
                classes[k].forget();
            }
        }

        int add(int kind) {
            int part = Math.min(parts, MOST_PARTS - 1);
            kinds[part] = kind;
            conditions[part] = 0;
            seconds[part] = 0;
            counts[part] = 1;
            links[part] = 0;
            parts = part + 1;
            return part;
        }

        void setKind(int part, int kind) {
            kinds[part] = kind;
        }

        int kindOf(int part) {
            return kinds[part];
        }

        void setCount(int part, int count) {
            counts[part] = count;
        }

        void setConditions(int part, long condition, long second) {
            conditions[part] = condition;
            seconds[part] = second;
        }

        /** The part that is added next is this one's second. */
        void setRight(int part) {
            links[part] = parts;
        }

        boolean endsWithCondition(int part) {
            return part == parts - 1 && kinds[part] == CONDITION;
        }

        long dropCondition() {
            parts--;
            return conditions[parts];
        }

        Sequence addSequence(int part) {
            int at = Math.min(sequenceCount, MOST_SEQUENCES - 1);
            links[part] = at;
            sequenceCount = at + 1;
            return sequences[at];
        }

        void layOut() {
            rowSize = 2 * parts;
            for (int part = 0; part < parts; part++) {
                slots[part] = rowSize;
                rowSize += kinds[part] == PLAIN ? MOST_LETTERS : 0;
            }
        }

        int rowSize() {
            return rowSize;
        }

        int sequenceCount() {
            return sequenceCount;
        }

        Sequence sequence(int at) {
            return sequences[at];
        }

        boolean isSmall() {
            boolean small = sequenceCount <= SMALL_SEQUENCES;
            for (int k = 0; k < sequenceCount && small; k++) {
                small = sequences[k].weight() <= SMALL_WEIGHT;
            }
            return small;
        }

        Classes classesOf(int at) {
            if (!classes[at].isBuilt()) {
                classes[at].build(sequences[at]);
            }
            return classes[at];
        }

        void startRow(long[] rows, int base) {
            for (int k = 0; k < rowSize; k++) {
                rows[base + k] = 0;
            }
            rows[base] = 1;
        }

        /** A letter more: whether the property fails with it. */
        boolean step(long[] rows, int base, int place, int letter) {
            boolean fails = false;
            for (int part = 0; part < parts; part++) {
                // Each part takes its step, whatever has failed.
                if (stepPart(rows, base, part, place, letter)) {
                    fails = true;
                }
            }
            return fails;
        }

        private boolean stepPart(long[] rows, int base, int part, int place, int letter) {
            boolean begins = (rows[base + part] >>> place & 1) != 0;
            int child = base + part + 1;
            switch (kinds[part]) {
                case CONDITION:
                    return begins && !isIn(conditions[part], letter);
                case PLAIN:
                    return stepPlain(rows, base, part, begins, letter);
                case OVERLAPS:
                case FOLLOWS:
                    stepRows(rows, base, part, place, letter);
                    return false;
                case NEVER:
                    return stepNever(rows, base, part, place, letter);
                case UNTIL:
                case BEFORE:
                    return stepOpen(rows, base, part, place, letter);
                case IMPLIES:
                    rows[child] |= begins && isIn(conditions[part], letter) ? 1L << place : 0;
                    return false;
                case ALWAYS:
                    rows[child] |= hasBegun(rows[base + part], place) ? 1L << place : 0;
                    return false;
                case NEXT:
                    rows[child] |= begins ? 1L << (place + counts[part]) : 0;
                    return false;
                default:
                    rows[child] |= begins ? 1L << place : 0;
                    rows[base + links[part]] |= begins ? 1L << place : 0;
                    return false;
            }
        }

        private static boolean isIn(long mask, int bit) {
            return (mask >>> bit & 1) != 0;
        }

        private static boolean hasBegun(long begun, int place) {
            return (begun & ((2L << place) - 1)) != 0;
        }

        private boolean stepPlain(long[] rows, int base, int part, boolean begins, int letter) {
            Sequence sequence = sequences[links[part]];
            int first = base + slots[part];
            int open = (int) rows[base + parts + part];
            if (begins && open < MOST_LETTERS && !sequence.accepts(Sequence.START)) {
                rows[first + open] = Sequence.START;
                open++;
            }
            boolean fails = false;
            int kept = 0;
            for (int k = 0; k < open; k++) {
                long set = sequence.next(rows[first + k], letter);
                if (set == 0) {
                    fails = true;
                } else if (!sequence.accepts(set)) {
                    rows[first + kept] = set;
                    kept++;
                }
            }
            rows[base + parts + part] = kept;
            return fails;
        }

        private void stepRows(long[] rows, int base, int part, int place, int letter) {
            Sequence sequence = sequences[links[part]];
            boolean begins = isIn(rows[base + part], place);
            int live = base + parts + part;
            boolean behind = kinds[part] == FOLLOWS;
            if (behind && begins && sequence.accepts(Sequence.START)) {
                rows[base + part + 1] |= 1L << place;
            }
            rows[live] = sequence.next(rows[live] | (begins ? Sequence.START : 0), letter);
            if (sequence.accepts(rows[live])) {
                rows[base + part + 1] |= 1L << (behind ? place + 1 : place);
            }
        }

        private boolean stepNever(long[] rows, int base, int part, int place, int letter) {
            if (!hasBegun(rows[base + part], place)) {
                return false;
            }
            Sequence sequence = sequences[links[part]];
            int live = base + parts + part;
            rows[live] = sequence.next(rows[live] | Sequence.START, letter);
            return sequence.accepts(rows[live]);
        }

        /** Until and before are open from where they begin up to a letter with their first condition. */
        private boolean stepOpen(long[] rows, int base, int part, int place, int letter) {
            int live = base + parts + part;
            boolean open = rows[live] != 0 || isIn(rows[base + part], place);
            boolean closes = isIn(conditions[part], letter);
            rows[live] = open && !closes ? 1 : 0;
            if (kinds[part] == BEFORE) {
                return open && isIn(seconds[part], letter);
            }
            rows[base + part + 1] |= rows[live] << place;
            return false;
        }

        int flopCount() {
            int count = 2;
            for (int part = 0; part < parts; part++) {
                count += flopsOf(part);
            }
            return count;
        }

        private int flopsOf(int part) {
            switch (kinds[part]) {
                case PLAIN:
                    return classesOf(links[part]).countKinds(Classes.GOING_ON, Classes.GOING_ON);
                case OVERLAPS:
                case FOLLOWS:
                case NEVER:
                    return classesOf(links[part]).countKinds(Classes.GOING_ON, Classes.ROWS_OF);
                case NEXT:
                    return counts[part];
                case ALWAYS:
                case UNTIL:
                case BEFORE:
                    return 1;
                default:
                    return 0;
            }
        }

        /** Flip-flop k of those of the parts. */
        boolean partFlop(int k, long[] row, int[] letters, int length) {
            int ahead = 0;
            for (int part = 0; part < parts; part++) {
                int count = flopsOf(part);
                if (k - ahead < count) {
                    return flopOf(part, k - ahead, row, letters, length);
                }
                ahead += count;
            }
            return false;
        }

        private boolean flopOf(int part, int k, long[] row, int[] letters, int length) {
            long begun = row[part] & ((1L << length) - 1);
            switch (kinds[part]) {
                case ALWAYS:
                    return begun != 0;
                case NEXT:
                    return k < length && isIn(begun, length - 1 - k);
                case UNTIL:
                case BEFORE:
                    return row[parts + part] != 0;
                case PLAIN:
                    return hasOpenRow(part, k, begun, letters, length);
                case NEVER:
                    // From the first place on at which it began each one counts, and so does the end.
                    return hasRowOf(part, k, begun | -begun, letters, length);
                default:
                    return hasRowOf(part, k, begun, letters, length);
            }
        }

        private boolean hasOpenRow(int part, int k, long begun, int[] letters, int length) {
            Classes of = classesOf(links[part]);
            int wanted = of.ofKinds(Classes.GOING_ON, Classes.GOING_ON, k);
            for (int i = 0; i < length; i++) {
                if (isIn(begun, i) && of.ofRow(letters, i, length) == wanted
                        && !of.hasRow(letters, i, length)) {
                    return true;
                }
            }
            return false;
        }

        private boolean hasRowOf(int part, int k, long from, int[] letters, int length) {
            Classes of = classesOf(links[part]);
            int wanted = of.ofKinds(Classes.GOING_ON, Classes.ROWS_OF, k);
            for (int i = 0; i <= length; i++) {
                if (isIn(from, i) && of.ofRow(letters, i, length) == wanted) {
                    return true;
                }
            }
            return false;
        }
    }

    /** Inputs, latches and gates, by the numbers of their literals. */
    private static final class Design {
        static final int MOST_INPUTS = 3;
        static final int MOST_LATCHES = 5;
        static final int MOST_GATES = 60;

        private final int[] ones = new int[MOST_GATES];
        private final int[] twos = new int[MOST_GATES];
        private final int[] nexts = new int[MOST_LATCHES];
        private final boolean[] firsts = new boolean[MOST_LATCHES];
        private final int[] signals = new int[SIGNALS];
        private final int[] values = new int[1 + MOST_INPUTS + MOST_LATCHES + MOST_GATES];
        private final StringBuilder written = new StringBuilder();
        private boolean isWritten;
        private int inputs;
        private int latches;
        private int gates;

        Design() {
            inputs = 1;
            Arrays.fill(signals, 2);
        }

        void reset(int inputs, int latches) {
            this.inputs = inputs;
            this.latches = latches;
            gates = 0;
            for (int k = 0; k < latches; k++) {
                nexts[k] = latchLiteral(k);
                firsts[k] = false;
            }
            Arrays.fill(signals, 2);
            isWritten = false;
        }

        int inputs() {
            return inputs;
        }

        int latches() {
            return latches;
        }

        int gates() {
            return gates;
        }

        int latchLiteral(int k) {
            return 2 * (1 + inputs + k);
        }

        int gateLiteral(int k) {
            return 2 * (1 + inputs + latches + k);
        }

        int signalLiteral(int k) {
            return signals[k];
        }

        boolean isLiteral(int literal) {
            return literal >= 0 && literal < gateLiteral(gates);
        }

        int addGate(int one, int two) {
            int at = Math.min(gates, MOST_GATES - 1);
            ones[at] = one;
            twos[at] = two;
            gates = at + 1;
            isWritten = false;
            return gateLiteral(at) / 2;
        }

        void setNext(int k, int literal) {
            nexts[k] = literal;
            isWritten = false;
        }

        void setFirst(int k, boolean first) {
            firsts[k] = first;
            isWritten = false;
        }

        void setSignal(int k, int literal) {
            signals[k] = literal;
            isWritten = false;
        }

        int firstLatches() {
            int bits = 0;
            for (int k = 0; k < latches; k++) {
                bits |= firsts[k] ? 1 << k : 0;
            }
            return bits;
        }

        /** One cycle: the letter, and above its six bits what the latches are then. */
        int cycle(int latchBits, int inputBits) {
            for (int k = 0; k < inputs; k++) {
                values[1 + k] = inputBits >> k & 1;
            }
            for (int k = 0; k < latches; k++) {
                values[1 + inputs + k] = latchBits >> k & 1;
            }
            for (int k = 0; k < gates; k++) {
                values[1 + inputs + latches + k] = valueOf(ones[k]) & valueOf(twos[k]);
            }
            int cycle = 0;
            for (int k = 0; k < SIGNALS; k++) {
                cycle |= valueOf(signals[k]) << k;
            }
            for (int k = 0; k < latches; k++) {
                cycle |= valueOf(nexts[k]) << (SIGNALS + k);
            }
            return cycle;
        }

        private int valueOf(int literal) {
            return values[literal >> 1] ^ literal & 1;
        }

        int writtenSign(int k) {
            if (!isWritten) {
                write();
                isWritten = true;
            }
            return k < written.length() ? written.charAt(k) : NONE;
        }

        private void write() {
            written.setLength(0);
            written.append("aag");
            writeNumber(inputs + latches + gates);
            writeNumber(inputs);
            writeNumber(latches);
            writeNumber(SIGNALS);
            writeNumber(gates);
            for (int k = 0; k < inputs; k++) {
                writeNumber(2 * (1 + k));
            }
            for (int k = 0; k < latches; k++) {
                writeNumber(latchLiteral(k));
                writeNumber(nexts[k]);
                writeNumber(firsts[k] ? 1 : 0);
            }
            for (int k = 0; k < SIGNALS; k++) {
                writeNumber(signals[k]);
            }
            for (int k = 0; k < gates; k++) {
                writeNumber(gateLiteral(k));
                writeNumber(ones[k]);
                writeNumber(twos[k]);
            }
        }

        private void writeNumber(int n) {
            written.append(' ');
            written.append(n);
        }
    }

    /** Reads a design text. */
    private static final class DesignReader {
        private static final int MOST_NAME = 8;
        /** The shortest statement with a new name is one of an input, of eight signs. */
        private static final int MOST_NAMES = MOST_SIGNS / 8;

        private final Tokens tokens;
        private final long[] names = new long[MOST_NAMES];
        private final int[] literals = new int[MOST_NAMES];
        private final int[] firsts = new int[Design.MOST_LATCHES];
        private int nameCount;

        DesignReader(Tokens tokens) {
            this.tokens = tokens;
        }

        int readInto(Design target) {
            scan();
            nameCount = 0;
            int inputs = readInputs();
            int latches = readLatches();
            target.reset(inputs, latches);
            for (int k = 0; k < inputs + latches; k++) {
                literals[k] = 2 * (1 + k);
            }
            for (int k = 0; k < latches; k++) {
                target.setFirst(k, firsts[k] == 1);
            }
            for (int n = 0; n < MOST_SIGNS && tokens.now() != Tokens.END && !tokens.isFaulty(); n++) {
                if (isStatement(tokens.now())) {
                    readStatement(target, inputs, latches);
                } else {
                    tokens.refuse();
                }
            }
            return tokens.fault();
        }

        private void scan() {
            tokens.restart();
            int place = 0;
            for (int n = 0; n < MOST_SIGNS && place < tokens.signCount(); n++) {
                place = scanOne(place);
            }
            tokens.finish();
        }

        private int scanOne(int place) {
            switch (tokens.signAt(place)) {
                case ' ':
                    return place + 1;
                case '0':
                    return tokens.add(Tokens.ZERO, place, 1);
                case '1':
                    return tokens.add(Tokens.ONE, place, 1);
                case ';':
                    return tokens.add(Tokens.SEMICOLON, place, 1);
                case '=':
                    return tokens.add(Tokens.EQUALS, place, 1);
                case '!':
                    return tokens.add(Tokens.NOT, place, 1);
                case '&':
                    return tokens.add(Tokens.AND, place, 1);
                case '|':
                    return tokens.add(Tokens.OR, place, 1);
                case '^':
                    return tokens.add(Tokens.XOR, place, 1);
                case '(':
                    return tokens.add(Tokens.OPEN, place, 1);
                case ')':
                    return tokens.add(Tokens.CLOSE, place, 1);
                default:
                    return tokens.isSmallAt(place) ? scanWord(place) : tokens.addBad(place);
            }
        }

        private int scanWord(int place) {
            int size = tokens.wordLength(place);
            if (size > MOST_NAME) {
                return tokens.addBad(place);
            }
            if (tokens.isWord(place, size, "input")) {
                return tokens.add(Tokens.INPUT, place, size);
            }
            if (tokens.isWord(place, size, "latch")) {
                return tokens.add(Tokens.LATCH, place, size);
            }
            if (tokens.isWord(place, size, "wire")) {
                return tokens.add(Tokens.WIRE, place, size);
            }
            if (tokens.isWord(place, size, "next")) {
                return tokens.add(Tokens.NEXT, place, size);
            }
            if (tokens.isWord(place, size, "signal")) {
                return tokens.add(Tokens.SIGNAL_WORD, place, size);
            }
            return tokens.addName(place, size);
        }

        private int readInputs() {
            int inputs = 0;
            do {
                tokens.take(Tokens.INPUT);
                addName(readNewName(), 0);
                tokens.take(Tokens.SEMICOLON);
                inputs++;
            } while (inputs < Design.MOST_INPUTS && tokens.now() == Tokens.INPUT);
            return inputs;
        }

        private int readLatches() {
            int latches = 0;
            while (latches < Design.MOST_LATCHES && tokens.now() == Tokens.LATCH) {
                tokens.advance();
                addName(readNewName(), 0);
                firsts[latches] = tokens.now() == Tokens.ONE ? 1 : 0;
                tokens.take(firsts[latches] == 1 ? Tokens.ONE : Tokens.ZERO);
                tokens.take(Tokens.SEMICOLON);
                latches++;
            }
            return latches;
        }

        private int indexOf(long name) {
            for (int k = 0; k < nameCount; k++) {
                if (names[k] == name) {
                    return k;
                }
            }
            return NONE;
        }

        private long readNewName() {
            long name = tokens.name();
            if (indexOf(name) != NONE) {
                tokens.refuse();
            }
            tokens.take(Tokens.NAME);
            return name;
        }

        private void addName(long name, int literal) {
            if (nameCount < MOST_NAMES) {
                names[nameCount] = name;
                literals[nameCount] = literal;
                nameCount++;
            }
        }

        private static boolean isStatement(int kind) {
            return kind == Tokens.WIRE || kind == Tokens.NEXT || kind == Tokens.SIGNAL_WORD;
        }

        private void readStatement(Design target, int inputs, int latches) {
            int kind = tokens.now();
            tokens.advance();
            long name = tokens.name();
            int at = indexOf(name);
            boolean fits = false;
            if (kind == Tokens.WIRE) {
                fits = at == NONE;
            } else if (kind == Tokens.NEXT) {
                fits = at >= inputs && at < inputs + latches;
            } else if (kind == Tokens.SIGNAL_WORD) {
                // A name of one letter is told by that letter's number, from 1 on.
                fits = name >= 1 && name <= SIGNALS;
            }
            if (!fits) {
                tokens.refuse();
            }
            tokens.take(Tokens.NAME);
            tokens.take(Tokens.EQUALS);
            int literal = expression(target, 0);
            tokens.take(Tokens.SEMICOLON);
            if (tokens.isFaulty()) {
                return;
            }
            if (kind == Tokens.WIRE) {
                addName(name, literal);
            } else if (kind == Tokens.NEXT) {
                target.setNext(at - inputs, literal);
            } else {
                target.setSignal((int) name - 1, literal);
            }
        }

        /** Its literal; open tells how many ( are, and keeps the recursion low. */
        private int expression(Design target, int open) {
            int literal = part(target, open);
            for (int n = 0; n < MOST_SIGNS; n++) {
                int kind = tokens.now();
                if (kind != Tokens.OR && kind != Tokens.XOR) {
                    break;
                }
                int place = tokens.place();
                tokens.advance();
                int second = part(target, open);
                literal = kind == Tokens.OR
                        ? orGate(target, literal, second, place) : xorGates(target, literal, second, place);
            }
            return literal;
        }

        private int part(Design target, int open) {
            int literal = factor(target, open);
            for (int n = 0; n < MOST_SIGNS && tokens.now() == Tokens.AND; n++) {
                int place = tokens.place();
                tokens.advance();
                int second = factor(target, open);
                literal = hasRoom(target, 1, place) ? 2 * target.addGate(literal, second) : 0;
            }
            return literal;
        }

        private int factor(Design target, int open) {
            int opposite = 0;
            for (int n = 0; n < MOST_SIGNS && tokens.now() == Tokens.NOT; n++) {
                opposite ^= 1;
                tokens.advance();
            }
            int literal = 0;
            int kind = tokens.now();
            if (kind == Tokens.OPEN && open < MOST_OPEN) {
                tokens.advance();
                literal = expression(target, open + 1);
                tokens.take(Tokens.CLOSE);
            } else if (kind == Tokens.NAME && indexOf(tokens.name()) != NONE) {
                literal = literals[indexOf(tokens.name())];
                tokens.advance();
            } else if (kind == Tokens.ONE) {
                literal = 1;
                tokens.advance();
            } else {
                tokens.take(Tokens.ZERO);
            }
            return literal ^ opposite;
        }

        private boolean hasRoom(Design target, int more, int place) {
            if (tokens.isFaulty()) {
                return false;
            }
            if (target.gates() + more > Design.MOST_GATES) {
                tokens.refuseAt(place);
                return false;
            }
            return true;
        }

        private int orGate(Design target, int one, int two, int place) {
            return hasRoom(target, 1, place) ? 2 * target.addGate(one ^ 1, two ^ 1) + 1 : 0;
        }

        private int xorGates(Design target, int one, int two, int place) {
            if (!hasRoom(target, 3, place)) {
                return 0;
            }
            int left = 2 * target.addGate(one, two ^ 1);
            int right = 2 * target.addGate(one ^ 1, two);
            return 2 * target.addGate(left ^ 1, right ^ 1) + 1;
        }
    }

    /** Reads a design as numbers. */
    private static final class NumbersReader {
        private static final int MOST_DIGITS = 4;
        private static final int MOST_VALUES = Design.MOST_INPUTS + Design.MOST_LATCHES + Design.MOST_GATES;

        private final Tokens tokens;

        NumbersReader(Tokens tokens) {
            this.tokens = tokens;
        }

        int readInto(Design target) {
            scan();
            tokens.take(Tokens.AAG);
            int values = readNumber(1, MOST_VALUES);
            int inputs = readNumber(1, Design.MOST_INPUTS);
            int latches = readNumber(0, Design.MOST_LATCHES);
            readNumber(SIGNALS, SIGNALS);
            int gates = values - inputs - latches;
            if (gates < 0 || gates > Design.MOST_GATES) {
                tokens.refuse();
            }
            readNumber(gates, gates);
            // A design of such numbers is made only where there is one.
            if (!tokens.isFaulty()) {
                target.reset(inputs, latches);
                readLiterals(target, inputs, latches, gates);
            }
            return tokens.fault();
        }

        private void readLiterals(Design target, int inputs, int latches, int gates) {
            int greatest = 2 * (inputs + latches + gates) + 1;
            for (int k = 0; k < inputs; k++) {
                readNumber(2 * (1 + k), 2 * (1 + k));
            }
            for (int k = 0; k < latches; k++) {
                readNumber(target.latchLiteral(k), target.latchLiteral(k));
                target.setNext(k, readNumber(0, greatest));
                target.setFirst(k, readNumber(0, 1) == 1);
            }
            for (int k = 0; k < SIGNALS; k++) {
                target.setSignal(k, readNumber(0, greatest));
            }
            for (int k = 0; k < gates; k++) {
                int own = target.gateLiteral(k);
                readNumber(own, own);
                int one = readNumber(0, own - 1);
                target.addGate(one, readNumber(0, own - 1));
            }
            tokens.take(Tokens.END);
        }

        private void scan() {
            tokens.restart();
            int place = 0;
            for (int n = 0; n < MOST_SIGNS && place < tokens.signCount(); n++) {
                if (tokens.signAt(place) == ' ') {
                    place++;
                } else if (tokens.reads(place, "aag")) {
                    place = tokens.add(Tokens.AAG, place, 3);
                } else {
                    place = scanNumber(place);
                }
            }
            tokens.finish();
        }

        private int scanNumber(int place) {
            int n = 0;
            int size = 0;
            while (size <= MOST_DIGITS && tokens.isDigitAt(place + size)) {
                n = 10 * n + tokens.signAt(place + size) - '0';
                size++;
            }
            return size < 1 || size > MOST_DIGITS
                    ? tokens.addBad(place) : tokens.addCounted(Tokens.NUMBER, place, size, n, n);
        }

        private int readNumber(int least, int greatest) {
            int n = tokens.low();
            if (n < least || n > greatest) {
                tokens.refuse();
            }
            tokens.take(Tokens.NUMBER);
            return tokens.isFaulty() ? least : n;
        }
    }

    /**
     * Looks for the shortest row of inputs with which a design's letters make just one of two properties
     * fail. It goes down first, least inputs first: what it finds is the first of its length, and then only
     * shorter ones are looked for.
     */
    private static final class Hunt {
        private static final int MOST_CYCLES = 12;
        private static final int MOST_TURNS = 1000000;
        private static final int CHOICES = 8;
        private static final long[] NO_ROWS = {};

        private static final int GO_ON = 0;
        private static final int HIT = 1;
        private static final int HOPELESS = 2;

        private final int[] tries = new int[MOST_CYCLES + 1];
        private final int[] latches = new int[MOST_CYCLES + 1];
        private final int[] letters = new int[MOST_CYCLES + 1];
        private final int[] foundInputs = new int[MOST_CYCLES];
        private final int[] foundLetters = new int[MOST_CYCLES];
        private final int[] foundLatches = new int[MOST_CYCLES];
        private final int[] cycles = new int[CHOICES << Design.MOST_LATCHES];
        private long[] rows = NO_ROWS;
        private int found;

        void forget() {
            found = 0;
        }

        int found() {
            return found;
        }

        int inputsAt(int t) {
            return foundInputs[t];
        }

        int letterAt(int t) {
            return foundLetters[t];
        }

        int latchesAt(int t) {
            return foundLatches[t];
        }

        int seek(Property one, Property two, Design design, int k) {
            prepare(one, two, design, k);
            int choices = 1 << design.inputs();
            int limit = Math.min(k, MOST_CYCLES);
            int depth = 0;
            for (int turn = 0; turn < MOST_TURNS && depth >= 0; turn++) {
                if (depth >= limit || tries[depth] >= choices) {
                    depth--;
                    if (depth >= 0) {
                        tries[depth]++;
                    }
                    continue;
                }
                int outcome = tryCycle(one, two, design, depth);
                if (outcome == GO_ON) {
                    depth++;
                    tries[depth] = 0;
                } else if (outcome == HIT) {
                    keep(depth + 1);
                    limit = depth;
                } else {
                    tries[depth]++;
                }
            }
            return found;
        }

        private void prepare(Property one, Property two, Design design, int k) {
            found = 0;
            tries[0] = 0;
            latches[0] = design.firstLatches();
            Arrays.fill(cycles, NONE);
            int size = (one.rowSize() + two.rowSize()) * (Math.min(k, MOST_CYCLES) + 1);
            if (rows.length < size) {
                rows = new long[size];
            }
            one.startRow(rows, 0);
            two.startRow(rows, one.rowSize());
        }

        private int tryCycle(Property one, Property two, Design design, int depth) {
            int width = one.rowSize() + two.rowSize();
            int base = (depth + 1) * width;
            System.arraycopy(rows, base - width, rows, base, width);
            int cycle = cycleOf(design, latches[depth], tries[depth]);
            letters[depth] = cycle & (LETTERS - 1);
            latches[depth + 1] = cycle >> SIGNALS;
            boolean oneFails = one.step(rows, base, depth, letters[depth]);
            boolean twoFails = two.step(rows, base + one.rowSize(), depth, letters[depth]);
            // What fails stays so: with both failing no longer word can set them apart.
            if (oneFails && twoFails) {
                return HOPELESS;
            }
            return oneFails || twoFails ? HIT : GO_ON;
        }

        private int cycleOf(Design design, int latchBits, int inputBits) {
            int at = latchBits * CHOICES + inputBits;
            if (cycles[at] == NONE) {
                cycles[at] = design.cycle(latchBits, inputBits);
            }
            return cycles[at];
        }

        private void keep(int size) {
            found = size;
            for (int t = 0; t < size; t++) {
                foundInputs[t] = tries[t];
                foundLetters[t] = letters[t];
                foundLatches[t] = latches[t];
            }
        }
    }
}
