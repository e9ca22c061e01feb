import java.util.NoSuchElementException;

/**
 * Read letters mended: a reading whose letters may be others, looked up best first in a lexicon
 * that is a tree of letters. The words in capitals are the document's (DOC.md).
 */
public final class MendedLetters {
    public static final int NONE = -1;

    private static final int MOST_BYTES = 400;
    private static final int MOST_WORDS = 60;
    private static final int MOST_SIGNS = 12;
    private static final int MOST_NODES = MOST_WORDS * MOST_SIGNS + 1;
    private static final int MOST_SHAPES = 20;
    private static final int MOST_PART = 3;
    private static final int MOST_TOKENS = 40;
    private static final int MOST_CELLS = 24;
    private static final int MOST_OTHERS = 3;
    private static final int MOST_FOLLOWS = 60;
    private static final int MOST_NUMBER = 99;
    private static final int LETTERS = 26;
    private static final int DEFAULT_SHAPE_COST = 5;

    private static final int NEWLINE = 10;
    private static final int BLANK = 32;
    private static final int HYPHEN = 45;
    private static final int SEMICOLON = 59;
    private static final int EQUALS = 61;
    private static final int QUESTION = 63;
    private static final int OPENING = 91;
    private static final int CLOSING = 93;
    private static final int FIRST_LETTER = 97;

    private static final int MISPLACED = 1;
    private static final int NO_SUCH_NUMBER = 2;
    private static final int TOO_MANY = 3;
    private static final int TOLD_AGAIN = 4;
    private static final int UNKNOWN_WORD = 5;
    private static final int FAULT_LESS = 10;

    private static final int OUT = 0;
    private static final int EACH = 1;
    private static final int BLOT = 2;
    private static final int SPECK = 3;
    private static final int KEPT = 4;
    private static final int LOST = 5;
    private static final int STRANGE = 6;
    private static final int[] FIRST_COSTS = {20, 2, 4, 3, 1, 8, 0};
    private static final int[] HIGHEST_COSTS = {999, 99, 99, 99, 99, 99, 99};

    /** Above every sum of costs that can come about. */
    private static final int FAR = 1000000;

    private final Tape tape;
    private final Lexicon lexicon;
    private final Shapes shapes;
    private final Shapes trialShapes;
    private final Reading reading;
    private final Reading trialReading;
    private final Follows follows;
    private final Follows trialFollows;
    private final int[] costs;
    private final Net net;
    private final Answers answers;
    private final MendedText mendedText;
    private final Sentence theSentence;
    private final Way theWay;
    private int missingRefused;
    private int wrongRefused;

    public MendedLetters() {
        tape = new Tape();
        lexicon = new Lexicon();
        shapes = new Shapes();
        trialShapes = new Shapes();
        reading = new Reading();
        trialReading = new Reading();
        follows = new Follows(lexicon);
        trialFollows = new Follows(lexicon);
        costs = FIRST_COSTS.clone();
        net = new Net(lexicon, shapes, reading, costs);
        answers = new Answers(new Search(lexicon, net), reading, costs);
        mendedText = new MendedText(lexicon, reading, answers);
        theSentence = new Sentence(reading, follows, answers, costs);
        theWay = new Way(net, lexicon);
    }

    // ---- what is told

    public int feed(int a, int b, int c, int d, int e) {
        if (tape.count > MOST_BYTES - 20) {
            return NONE;
        }
        tape.add(a);
        tape.add(b);
        tape.add(c);
        tape.add(d);
        tape.add(e);
        return tape.count;
    }

    public int lexicon(int n) throws IllegalArgumentException {
        needBetween(n, 0, tape.count);
        tape.begin(n);
        if (lexicon.readText(tape)) {
            changed();
        }
        return tape.finish(lexicon.count);
    }

    public int shapes(int n) throws IllegalArgumentException {
        needBetween(n, 0, tape.count);
        tape.begin(n);
        // Read on trial first: a FAULT leaves what there is.
        if (trialShapes.readText(tape)) {
            tape.begin(n);
            shapes.readText(tape);
            changed();
        }
        return tape.finish(shapes.count);
    }

    public int reading(int n) throws IllegalArgumentException {
        needBetween(n, 0, tape.count);
        tape.begin(n);
        if (trialReading.readText(tape)) {
            tape.begin(n);
            reading.readText(tape);
            changed();
        }
        return tape.finish(reading.tokens);
    }

    public int fault() {
        return tape.faultPlace;
    }

    public int follows(int n) throws IllegalArgumentException {
        needBetween(n, 0, tape.count);
        tape.begin(n);
        if (trialFollows.readText(tape)) {
            tape.begin(n);
            follows.readText(tape);
            changed();
        }
        return tape.finish(follows.count);
    }

    public int forget() {
        int before = lexicon.count;
        lexicon.clear();
        follows.clear();
        changed();
        return before;
    }

    public int set(int what, int v) throws IllegalArgumentException {
        needBetween(what, OUT, STRANGE);
        needBetween(v, 0, HIGHEST_COSTS[what]);
        int before = costs[what];
        costs[what] = v;
        changed();
        return before;
    }

    public int weigh(int word, int weight) throws NoSuchElementException, IllegalArgumentException {
        needWord(word);
        needBetween(weight, 0, MOST_NUMBER);
        int before = lexicon.weights[word];
        lexicon.weighWord(word, weight);
        changed();
        return before;
    }

    public int learn(int token) throws NoSuchElementException {
        needToken(token);
        answers.lookAlone(token);
        int first = answers.mendedWord(token);
        if (first == NONE) {
            return NONE;
        }
        int next = answers.wordOf(token, 1);
        lexicon.weighWord(first, Math.max(0, lexicon.weights[first] - 1));
        if (next != NONE) {
            lexicon.weighWord(next, Math.min(MOST_NUMBER, lexicon.weights[next] + 1));
        }
        changed();
        return first;
    }

    // ---- what is asked of what was told

    public int told(int what) throws IllegalArgumentException {
        needBetween(what, 0, 12);
        switch (what) {
            case 0:
                return lexicon.count;
            case 1:
                return lexicon.nodes;
            case 2:
                return shapes.count;
            case 3:
                return reading.tokens;
            case 4:
                return reading.lines;
            case 11:
                return tape.count;
            case 12:
                return costs[STRANGE];
            default:
                return costs[what - 5];
        }
    }

    public int word(int word, int what) throws NoSuchElementException, IllegalArgumentException {
        needWord(word);
        needBetween(what, 0, 3);
        switch (what) {
            case 0:
                return lexicon.lengths[word];
            case 1:
                return lexicon.weights[word];
            case 2:
                return lexicon.ends[word];
            default:
                return lexicon.through[lexicon.ends[word]] - 1;
        }
    }

    public int sign(int word, int k) throws NoSuchElementException {
        needWord(word);
        return k >= 0 && k < lexicon.lengths[word] ? lexicon.signOf(word, k) : NONE;
    }

    public int find(int n) throws IllegalArgumentException {
        needBetween(n, 0, tape.count);
        return lexicon.look(tape.bytes, 0, n);
    }

    public int node(int node, int what) throws NoSuchElementException, IllegalArgumentException {
        needNode(node);
        needBetween(what, 0, 5);
        switch (what) {
            case 0:
                return lexicon.parents[node];
            case 1:
                return lexicon.nodeSigns[node];
            case 2:
                return lexicon.wordAt[node];
            case 3:
                return lexicon.count == 0 ? NONE : lexicon.least[node];
            case 4:
                return lexicon.countChildren(node);
            default:
                return lexicon.through[node];
        }
    }

    public int child(int node, int sign) throws NoSuchElementException {
        needNode(node);
        return lexicon.childOf(node, sign);
    }

    public int shape(int shape, int what) throws NoSuchElementException, IllegalArgumentException {
        needShape(shape);
        needBetween(what, 0, 2);
        switch (what) {
            case 0:
                return shapes.costs[shape];
            case 1:
                return shapes.firstLengths[shape];
            default:
                return shapes.secondLengths[shape];
        }
    }

    public int token(int token, int what) throws NoSuchElementException, IllegalArgumentException {
        needToken(token);
        needBetween(what, 0, 6);
        switch (what) {
            case 0:
                return reading.cellsOf(token);
            case 1:
                return reading.lineOf[token];
            case 2:
                return reading.countBreaks(token);
            case 3:
                net.ofCells(reading.starts[token], reading.cellsOf(token));
                return net.edges;
            case 4:
                return answers.outsidePrice(token);
            case 5:
                return reading.nearNext[token] ? 1 : 0;
            default:
                return reading.readAs(token, lexicon) != NONE ? 1 : 0;
        }
    }

    public int cell(int token, int cell, int what) throws NoSuchElementException, IllegalArgumentException {
        needToken(token);
        needElement(cell, reading.cellsOf(token));
        needBetween(what, 0, 2);
        int one = reading.starts[token] + cell;
        switch (what) {
            case 0:
                return reading.signs[one];
            case 1:
                return reading.others[one];
            default:
                return reading.leastOther(one);
        }
    }

    // ---- what is asked of one TOKEN

    public int rest(int token, int place) throws NoSuchElementException {
        needToken(token);
        needElement(place, reading.cellsOf(token) + 1);
        net.ofCells(reading.starts[token], reading.cellsOf(token));
        return net.rests[place];
    }

    public int best(int token, int j, int what) throws NoSuchElementException, IllegalArgumentException {
        needToken(token);
        needBetween(what, 0, 2);
        answers.lookAlone(token);
        switch (what) {
            case 0:
                return answers.wordOf(token, j);
            case 1:
                return answers.priceOf(token, j);
            default:
                return answers.openedFor(token, j);
        }
    }

    public int price(int token, int word) throws NoSuchElementException {
        needToken(token);
        needWord(word);
        answers.lookAlone(token);
        return answers.priceFor(token, word);
    }

    public int within(int token, int most) throws NoSuchElementException, IllegalArgumentException {
        needToken(token);
        needBetween(most, 0, 9999);
        answers.lookAlone(token);
        int some = 0;
        for (int j = 0; j < answers.counts[token]; j++) {
            if (answers.priceOf(token, j) <= most) {
                some++;
            }
        }
        return some;
    }

    public int mended(int token, int what) throws NoSuchElementException, IllegalArgumentException {
        needToken(token);
        needBetween(what, 0, 2);
        answers.lookAlone(token);
        switch (what) {
            case 0:
                return answers.mendedWord(token);
            case 1:
                return answers.mendedPrice(token);
            default:
                return answers.nextCostsMore(token);
        }
    }

    // ---- the text MENDED

    public int text(int what) throws IllegalArgumentException {
        needBetween(what, 0, 3);
        mendedText.make();
        switch (what) {
            case 0:
                return mendedText.length;
            case 1:
                return mendedText.prices;
            case 2:
                return mendedText.pairsLost;
            default:
                return mendedText.outside;
        }
    }

    public int at(int k) {
        mendedText.make();
        return k >= 0 && k < mendedText.length ? mendedText.bytes[k] : NONE;
    }

    public boolean lost(int token, int what) throws NoSuchElementException, IllegalArgumentException {
        needToken(token);
        needBetween(what, 0, 1);
        mendedText.make();
        if (what == 0) {
            return mendedText.lostWithNext[token];
        }
        return token > 0 && mendedText.lostWithNext[token - 1];
    }

    // ---- the EDGES by which a TOKEN is MENDED

    public int way(int token, int what) throws NoSuchElementException, IllegalArgumentException {
        needToken(token);
        needBetween(what, 0, 1);
        if (!findWay(token)) {
            return NONE;
        }
        return what == 0 ? theWay.steps : theWay.cost;
    }

    public int edge(int token, int k, int what) throws NoSuchElementException, IllegalArgumentException {
        needToken(token);
        needElement(k, findWay(token) ? theWay.steps : 0);
        needBetween(what, 0, 4);
        int one = theWay.taken[k];
        switch (what) {
            case 0:
                return net.from[one];
            case 1:
                return net.to[one];
            case 2:
                return net.edgeCosts[one];
            case 3:
                return net.signCounts[one];
            default:
                return net.shapeOf[one];
        }
    }

    public int used(int shape) throws NoSuchElementException {
        needShape(shape);
        int often = 0;
        for (int token = 0; token < reading.tokens; token++) {
            if (findWay(token)) {
                often += theWay.countShape(shape);
            }
        }
        return often;
    }

    // ---- THE SENTENCE

    public int dear(int word, int next) throws NoSuchElementException {
        needWord(word);
        needWord(next);
        return follows.dearOf(word, next, costs[STRANGE]);
    }

    public int sentence(int what) throws IllegalArgumentException {
        needBetween(what, 0, 2);
        theSentence.make();
        switch (what) {
            case 0:
                return theSentence.cost;
            case 1:
                return theSentence.otherwise;
            default:
                return theSentence.outside;
        }
    }

    public int said(int token) throws NoSuchElementException {
        needToken(token);
        theSentence.make();
        return theSentence.saidWords[token];
    }

    // ---- WORDS taken for one another

    public int apart(int word, int other) throws NoSuchElementException {
        needWord(word);
        needWord(other);
        return costBetween(word, other);
    }

    public int twin(int word, int what) throws NoSuchElementException, IllegalArgumentException {
        needWord(word);
        needBetween(what, 0, 1);
        int nearest = NONE;
        int least = NONE;
        for (int other = 0; other < lexicon.count; other++) {
            int cost = other == word ? NONE : costBetween(word, other);
            if (cost != NONE && (least == NONE || cost < least)) {
                nearest = other;
                least = cost;
            }
        }
        return what == 0 ? nearest : least;
    }

    public int twins(int most) throws IllegalArgumentException {
        needBetween(most, 0, 999);
        int pairs = 0;
        for (int word = 0; word < lexicon.count; word++) {
            for (int other = 0; other < lexicon.count; other++) {
                int cost = other == word ? NONE : costBetween(word, other);
                if (cost != NONE && cost <= most) {
                    pairs++;
                }
            }
        }
        return pairs;
    }

    public int status(int what) {
        if (what == 0) {
            return missingRefused;
        }
        return what == 1 ? wrongRefused : NONE;
    }

    // ---- what the calls above share

    private void changed() {
        answers.forgetAll();
        mendedText.made = false;
        theSentence.made = false;
    }

    /** The EDGES of a TOKEN come into theWay, whose numbers are those of the net; false: it is OUTSIDE. */
    private boolean findWay(int token) {
        answers.lookAlone(token);
        int word = answers.mendedWord(token);
        if (word == NONE) {
            return false;
        }
        net.ofCells(reading.starts[token], reading.cellsOf(token));
        theWay.spell(word);
        return true;
    }

    private int costBetween(int word, int other) {
        answers.lookSurely(word);
        int price = answers.priceFor(Answers.SURELY + word, other);
        return price == NONE ? NONE : price - lexicon.weights[other];
    }

    private void needWord(int word) {
        needElement(word, lexicon.count);
    }

    private void needNode(int node) {
        needElement(node, lexicon.nodes);
    }

    private void needShape(int shape) {
        needElement(shape, shapes.count);
    }

    private void needToken(int token) {
        needElement(token, reading.tokens);
    }

    private void needElement(int element, int count) {
        if (element < 0 || element >= count) {
            missingRefused++;
            throw new NoSuchElementException("there is none such");
        }
    }

    private void needBetween(int value, int least, int most) {
        if (value < least || value > most) {
            wrongRefused++;
            throw new IllegalArgumentException("not between its least and its most");
        }
    }

    private static boolean isLetter(int sign) {
        return sign >= FIRST_LETTER && sign < FIRST_LETTER + LETTERS;
    }

    private static boolean isDigit(int sign) {
        return sign >= 48 && sign <= 57;
    }

    /** The TAPE, the text of its first bytes that is being read, and the latest FAULT. */
    private static final class Tape {
        final int[] bytes = new int[MOST_BYTES];
        int count;
        int end;
        int here;
        int fault;
        int faultPlace = NONE;

        Tape() {
        }

        void add(int number) {
            for (int shift = 24; shift >= 0 && count < MOST_BYTES; shift -= 8) {
                bytes[count] = (number >>> shift) & 255;
                count++;
            }
        }

        void begin(int n) {
            end = n;
            here = 0;
            fault = 0;
            faultPlace = NONE;
        }

        /** Empties the TAPE: the answer that is due, or the FAULT less 10. */
        int finish(int answer) {
            count = 0;
            return fault == 0 ? answer : fault - FAULT_LESS;
        }

        /** The byte so far behind the next one; NONE at the text's end. */
        int peek(int behind) {
            int place = here + behind;
            return place >= 0 && place < end ? bytes[place] : NONE;
        }

        boolean atEnd() {
            return here >= end;
        }

        /** Always false, so that a reader can hand it on. */
        boolean refuse(int number, int place) {
            fault = number;
            faultPlace = place;
            return false;
        }

        void skipBlanks() {
            while (here < end && bytes[here] == BLANK) {
                here++;
            }
        }

        /** A number that must stand here; NONE behind a FAULT. */
        int readNumber(int least) {
            int start = here;
            if (!isDigit(peek(0))) {
                refuse(MISPLACED, start);
                return NONE;
            }
            int value = 0;
            while (here < end && isDigit(bytes[here])) {
                // However long it is, it stays a small int above every most.
                value = Math.min(value * 10 + bytes[here] - 48, MOST_NUMBER + 1);
                here++;
            }
            if (value < least || value > MOST_NUMBER) {
                refuse(NO_SUCH_NUMBER, start);
                return NONE;
            }
            return value;
        }

        /** [ NUMBER ] ";": the number, or what counts without one (NONE: it must stand); NONE behind a FAULT. */
        int readEnding(int without, int least) {
            skipBlanks();
            int value = without;
            if (without == NONE || isDigit(peek(0))) {
                value = readNumber(least);
                if (value == NONE) {
                    return NONE;
                }
                skipBlanks();
            }
            if (peek(0) != SEMICOLON) {
                refuse(MISPLACED, here);
                return NONE;
            }
            here++;
            return value;
        }
    }

    /** The WORDS and their TREE. */
    private static final class Lexicon {
        int count;
        final int[] lengths = new int[MOST_WORDS];
        final int[] weights = new int[MOST_WORDS];
        final int[] ends = new int[MOST_WORDS];
        final int[] signs = new int[MOST_WORDS * MOST_SIGNS];
        int nodes = 1;
        final int[] parents = new int[MOST_NODES];
        final int[] nodeSigns = new int[MOST_NODES];
        final int[] wordAt = new int[MOST_NODES];
        final int[] firstChild = new int[MOST_NODES];
        final int[] nextChild = new int[MOST_NODES];
        final int[] through = new int[MOST_NODES];
        final int[] least = new int[MOST_NODES];
        int fresh;
        final int[] freshStarts = new int[MOST_WORDS];
        final int[] freshLengths = new int[MOST_WORDS];
        final int[] freshWeights = new int[MOST_WORDS];

        Lexicon() {
            clear();
        }

        void clear() {
            count = 0;
            nodes = 0;
            addNode(NONE, 0);
        }

        private int addNode(int parent, int sign) {
            int node = nodes;
            if (node >= MOST_NODES) {
                return NONE;
            }
            nodes++;
            parents[node] = parent;
            nodeSigns[node] = sign;
            wordAt[node] = NONE;
            firstChild[node] = NONE;
            nextChild[node] = NONE;
            through[node] = 0;
            least[node] = NONE;
            if (parent >= 0) {
                nextChild[node] = firstChild[parent];
                firstChild[parent] = node;
            }
            return node;
        }

        int childOf(int node, int sign) {
            int child = firstChild[node];
            for (int i = 0; i <= LETTERS && child >= 0; i++) {
                if (nodeSigns[child] == sign) {
                    return child;
                }
                child = nextChild[child];
            }
            return NONE;
        }

        int countChildren(int node) {
            int some = 0;
            int child = firstChild[node];
            for (int i = 0; i <= LETTERS && child >= 0; i++) {
                some++;
                child = nextChild[child];
            }
            return some;
        }

        int signOf(int word, int k) {
            return signs[word * MOST_SIGNS + k];
        }

        /** The WORD that the bytes from a start on are; NONE: none. */
        int look(int[] bytes, int start, int length) {
            int node = 0;
            for (int i = start; i < start + length; i++) {
                node = childOf(node, bytes[i]);
                if (node == NONE) {
                    return NONE;
                }
            }
            return wordAt[node];
        }

        /** WORDS more; false: a FAULT, and all stays. */
        boolean readText(Tape tape) {
            fresh = 0;
            for (int i = 0; i <= MOST_WORDS; i++) {
                tape.skipBlanks();
                if (tape.atEnd()) {
                    addFresh(tape.bytes);
                    return true;
                }
                if (!readEntry(tape)) {
                    return false;
                }
            }
            return false;
        }

        private boolean readEntry(Tape tape) {
            int start = tape.here;
            if (!isLetter(tape.peek(0))) {
                return tape.refuse(MISPLACED, start);
            }
            if (count + fresh >= MOST_WORDS) {
                return tape.refuse(TOO_MANY, start);
            }
            if (!passWord(tape)) {
                return false;
            }
            int length = tape.here - start;
            if (look(tape.bytes, start, length) != NONE || isFresh(tape.bytes, start, length)) {
                return tape.refuse(TOLD_AGAIN, start);
            }
            int weight = tape.readEnding(0, 0);
            if (weight == NONE) {
                return false;
            }
            freshStarts[fresh] = start;
            freshLengths[fresh] = length;
            freshWeights[fresh] = weight;
            fresh++;
            return true;
        }

        private boolean passWord(Tape tape) {
            int last = NONE;
            for (int k = 0; k <= MOST_SIGNS; k++) {
                int sign = tape.peek(0);
                if (!isLetter(sign) && sign != HYPHEN) {
                    return last != HYPHEN || tape.refuse(MISPLACED, tape.here);
                }
                if (k == MOST_SIGNS) {
                    return tape.refuse(TOO_MANY, tape.here);
                }
                last = sign;
                tape.here++;
            }
            return false;
        }

        private boolean isFresh(int[] bytes, int start, int length) {
            for (int i = 0; i < fresh; i++) {
                int same = 0;
                while (freshLengths[i] == length && same < length
                        && bytes[freshStarts[i] + same] == bytes[start + same]) {
                    same++;
                }
                if (same == length) {
                    return true;
                }
            }
            return false;
        }

        private void addFresh(int[] bytes) {
            for (int i = 0; i < fresh && count < MOST_WORDS; i++) {
                addWord(bytes, freshStarts[i], freshLengths[i]);
                weights[count] = freshWeights[i];
                count++;
            }
            findLeast();
        }

        private void addWord(int[] bytes, int start, int length) {
            int node = 0;
            through[0]++;
            for (int k = 0; k < length && k < MOST_SIGNS; k++) {
                int sign = bytes[start + k];
                signs[count * MOST_SIGNS + k] = sign;
                int next = childOf(node, sign);
                if (next == NONE) {
                    next = addNode(node, sign);
                }
                if (next == NONE) {
                    return;
                }
                node = next;
                through[node]++;
            }
            lengths[count] = length;
            ends[count] = node;
            wordAt[node] = count;
        }

        void weighWord(int word, int weight) {
            weights[word] = weight;
            findLeast();
        }

        private void findLeast() {
            for (int node = 0; node < nodes; node++) {
                least[node] = NONE;
            }
            for (int word = 0; word < count; word++) {
                int node = ends[word];
                for (int k = 0; k <= MOST_SIGNS && node >= 0; k++) {
                    if (least[node] == NONE || weights[word] < least[node]) {
                        least[node] = weights[word];
                    }
                    node = parents[node];
                }
            }
        }
    }

    /** The SHAPES. */
    private static final class Shapes {
        int count;
        final int[] costs = new int[MOST_SHAPES];
        final int[] firstLengths = new int[MOST_SHAPES];
        final int[] secondLengths = new int[MOST_SHAPES];
        final int[] firsts = new int[MOST_SHAPES * MOST_PART];
        final int[] seconds = new int[MOST_SHAPES * MOST_PART];

        Shapes() {
        }

        boolean readText(Tape tape) {
            count = 0;
            for (int i = 0; i <= MOST_SHAPES; i++) {
                tape.skipBlanks();
                if (tape.atEnd()) {
                    return true;
                }
                if (!readEntry(tape)) {
                    return false;
                }
            }
            return false;
        }

        private boolean readEntry(Tape tape) {
            if (!isLetter(tape.peek(0))) {
                return tape.refuse(MISPLACED, tape.here);
            }
            if (count >= MOST_SHAPES) {
                return tape.refuse(TOO_MANY, tape.here);
            }
            firstLengths[count] = readPart(tape, firsts);
            if (firstLengths[count] == NONE) {
                return false;
            }
            if (tape.peek(0) != EQUALS) {
                return tape.refuse(MISPLACED, tape.here);
            }
            tape.here++;
            tape.skipBlanks();
            int start = tape.here;
            secondLengths[count] = readPart(tape, seconds);
            if (secondLengths[count] == NONE) {
                return false;
            }
            if (partsAlike()) {
                return tape.refuse(MISPLACED, start);
            }
            costs[count] = tape.readEnding(DEFAULT_SHAPE_COST, 1);
            if (costs[count] == NONE) {
                return false;
            }
            count++;
            return true;
        }

        /** How many letters; NONE behind a FAULT. */
        private int readPart(Tape tape, int[] row) {
            for (int k = 0; k <= MOST_PART; k++) {
                if (!isLetter(tape.peek(0))) {
                    if (k > 0) {
                        return k;
                    }
                    tape.refuse(MISPLACED, tape.here);
                    return NONE;
                }
                if (k == MOST_PART) {
                    tape.refuse(TOO_MANY, tape.here);
                    return NONE;
                }
                row[count * MOST_PART + k] = tape.peek(0);
                tape.here++;
            }
            return NONE;
        }

        private boolean partsAlike() {
            if (firstLengths[count] != secondLengths[count]) {
                return false;
            }
            for (int k = 0; k < firstLengths[count]; k++) {
                if (firsts[count * MOST_PART + k] != seconds[count * MOST_PART + k]) {
                    return false;
                }
            }
            return true;
        }
    }

    /** The TOKENS and their CELLS; the CELLS of all TOKENS stand in one row, so two TOKENS' next to one another do. */
    private static final class Reading {
        int tokens;
        int lines;
        int cells;
        final int[] starts = new int[MOST_TOKENS + 1];
        final int[] lineOf = new int[MOST_TOKENS];
        final boolean[] nearNext = new boolean[MOST_TOKENS];
        final boolean[] newlineBehind = new boolean[MOST_TOKENS];
        final int[] signs = new int[MOST_BYTES];
        final int[] others = new int[MOST_BYTES];
        final int[] otherLetters = new int[MOST_BYTES * MOST_OTHERS];
        final int[] otherCosts = new int[MOST_BYTES * MOST_OTHERS];

        Reading() {
        }

        int cellsOf(int token) {
            return starts[token + 1] - starts[token];
        }

        int countBreaks(int token) {
            int some = 0;
            for (int i = starts[token]; i < starts[token + 1]; i++) {
                if (signs[i] == NEWLINE) {
                    some++;
                }
            }
            return some;
        }

        int leastOther(int cell) {
            int least = NONE;
            for (int i = 0; i < others[cell]; i++) {
                int cost = otherCosts[cell * MOST_OTHERS + i];
                least = least == NONE ? cost : Math.min(least, cost);
            }
            return least;
        }

        /** The WORD that a TOKEN is as OUTSIDE would keep it; NONE: none. */
        int readAs(int token, Lexicon lexicon) {
            int node = 0;
            for (int i = starts[token]; i < starts[token + 1]; i++) {
                if (signs[i] != NEWLINE) {
                    node = lexicon.childOf(node, signs[i]);
                }
                if (node == NONE) {
                    return NONE;
                }
            }
            return lexicon.wordAt[node];
        }

        boolean readText(Tape tape) {
            tokens = 0;
            cells = 0;
            lines = 1;
            for (int i = 0; i <= MOST_TOKENS; i++) {
                readGap(tape);
                if (tape.atEnd()) {
                    return true;
                }
                if (!readToken(tape)) {
                    return false;
                }
            }
            return false;
        }

        private void readGap(Tape tape) {
            int newlines = 0;
            int blanks = 0;
            while (!tape.atEnd() && isGap(tape.peek(0))) {
                if (tape.peek(0) == NEWLINE) {
                    newlines++;
                } else {
                    blanks++;
                }
                tape.here++;
            }
            lines += newlines;
            if (tokens > 0) {
                newlineBehind[tokens - 1] = newlines > 0;
                nearNext[tokens - 1] = newlines == 1 && blanks == 0 && !tape.atEnd();
            }
        }

        private boolean isGap(int sign) {
            return sign == BLANK || sign == NEWLINE;
        }

        private boolean readToken(Tape tape) {
            if (!beginsCell(tape.peek(0))) {
                return tape.refuse(MISPLACED, tape.here);
            }
            if (tokens >= MOST_TOKENS) {
                return tape.refuse(TOO_MANY, tape.here);
            }
            starts[tokens] = cells;
            lineOf[tokens] = lines - 1;
            tokens++;
            for (int k = 0; k <= MOST_CELLS; k++) {
                int sign = tape.peek(0);
                if (sign == NONE || isGap(sign)) {
                    starts[tokens] = cells;
                    return true;
                }
                if (!beginsCell(sign)) {
                    return tape.refuse(MISPLACED, tape.here);
                }
                if (k == MOST_CELLS) {
                    return tape.refuse(TOO_MANY, tape.here);
                }
                if (!readCell(tape, sign)) {
                    return false;
                }
            }
            return false;
        }

        private boolean beginsCell(int sign) {
            return isLetter(sign) || sign == QUESTION || sign == HYPHEN;
        }

        private boolean readCell(Tape tape, int sign) {
            int cell = cells;
            if (cell >= MOST_BYTES) {
                return false;
            }
            cells++;
            tape.here++;
            signs[cell] = sign;
            others[cell] = 0;
            if (sign == HYPHEN && isBreak(tape)) {
                signs[cell] = NEWLINE;
                lines++;
                tape.here++;
            }
            return !isLetter(sign) || tape.peek(0) != OPENING || readOthers(tape, cell);
        }

        private boolean isBreak(Tape tape) {
            return tape.peek(0) == NEWLINE && (isLetter(tape.peek(1)) || tape.peek(1) == QUESTION);
        }

        private boolean readOthers(Tape tape, int cell) {
            tape.here++;
            if (tape.peek(0) == CLOSING) {
                tape.here++;
                return true;
            }
            for (int k = 0; k <= MOST_OTHERS; k++) {
                int letter = tape.peek(0);
                if (!isLetter(letter)) {
                    return tape.refuse(MISPLACED, tape.here);
                }
                if (k == MOST_OTHERS) {
                    return tape.refuse(TOO_MANY, tape.here);
                }
                tape.here++;
                int cost = tape.readNumber(1);
                if (cost == NONE) {
                    return false;
                }
                otherLetters[cell * MOST_OTHERS + k] = letter;
                otherCosts[cell * MOST_OTHERS + k] = cost;
                others[cell] = k + 1;
                if (tape.peek(0) == CLOSING) {
                    tape.here++;
                    return true;
                }
                if (tape.peek(0) != BLANK) {
                    return tape.refuse(MISPLACED, tape.here);
                }
                tape.skipBlanks();
            }
            return false;
        }
    }

    /** The FOLLOWS, as they were told. */
    private static final class Follows {
        private final Lexicon lexicon;
        int count;
        final int[] firsts = new int[MOST_FOLLOWS];
        final int[] seconds = new int[MOST_FOLLOWS];
        final int[] numbers = new int[MOST_FOLLOWS];

        Follows(Lexicon lexicon) {
            this.lexicon = lexicon;
        }

        void clear() {
            count = 0;
        }

        int dearOf(int word, int next, int strange) {
            // From behind: of what is told twice the last counts.
            for (int i = count - 1; i >= 0; i--) {
                if (firsts[i] == word && seconds[i] == next) {
                    return numbers[i];
                }
            }
            return strange;
        }

        boolean readText(Tape tape) {
            count = 0;
            for (int i = 0; i <= MOST_FOLLOWS; i++) {
                tape.skipBlanks();
                if (tape.atEnd()) {
                    return true;
                }
                if (!readEntry(tape)) {
                    return false;
                }
            }
            return false;
        }

        private boolean readEntry(Tape tape) {
            if (isLetter(tape.peek(0)) && count >= MOST_FOLLOWS) {
                return tape.refuse(TOO_MANY, tape.here);
            }
            int first = readWord(tape);
            if (first == NONE) {
                return false;
            }
            if (tape.peek(0) != BLANK) {
                return tape.refuse(MISPLACED, tape.here);
            }
            tape.skipBlanks();
            int second = readWord(tape);
            if (second == NONE) {
                return false;
            }
            int number = tape.readEnding(NONE, 0);
            if (number == NONE) {
                return false;
            }
            firsts[count] = first;
            seconds[count] = second;
            numbers[count] = number;
            count++;
            return true;
        }

        /** The WORD; NONE behind a FAULT. */
        private int readWord(Tape tape) {
            int start = tape.here;
            if (!isLetter(tape.peek(0))) {
                tape.refuse(MISPLACED, start);
                return NONE;
            }
            while (!tape.atEnd() && (isLetter(tape.peek(0)) || tape.peek(0) == HYPHEN)) {
                tape.here++;
            }
            int word = lexicon.look(tape.bytes, start, tape.here - start);
            if (word == NONE) {
                tape.refuse(UNKNOWN_WORD, start);
            }
            return word;
        }
    }

    /** The NET of a TOKEN, of two that are joined, or of a WORD read surely; the EDGES of a place stand in order. */
    private static final class Net {
        static final int MOST_EDGES = MOST_CELLS * LETTERS;

        private final Lexicon lexicon;
        private final Shapes shapes;
        private final Reading reading;
        private final int[] costs;
        int length;
        int edges;
        final int[] read = new int[MOST_CELLS];
        final int[] firstEdges = new int[MOST_CELLS + 2];
        final int[] from = new int[MOST_EDGES];
        final int[] to = new int[MOST_EDGES];
        final int[] edgeCosts = new int[MOST_EDGES];
        final int[] signCounts = new int[MOST_EDGES];
        final int[] signs = new int[MOST_EDGES * MOST_PART];
        final int[] shapeOf = new int[MOST_EDGES];
        final int[] rests = new int[MOST_CELLS + 1];

        Net(Lexicon lexicon, Shapes shapes, Reading reading, int[] costs) {
            this.lexicon = lexicon;
            this.shapes = shapes;
            this.reading = reading;
            this.costs = costs;
        }

        void ofCells(int start, int cells) {
            begin(cells);
            for (int place = 0; place < length; place++) {
                read[place] = reading.signs[start + place];
            }
            for (int place = 0; place < length; place++) {
                firstEdges[place] = edges;
                addRead(place);
                addOthers(place, start + place);
                addShapes(place);
            }
            end();
        }

        void ofWord(int word) {
            begin(lexicon.lengths[word]);
            for (int place = 0; place < length; place++) {
                read[place] = lexicon.signOf(word, place);
            }
            for (int place = 0; place < length; place++) {
                firstEdges[place] = edges;
                addRead(place);
                addShapes(place);
            }
            end();
        }

        private void begin(int cells) {
            length = Math.min(cells, MOST_CELLS);
            edges = 0;
        }

        private void addRead(int place) {
            int sign = read[place];
            if (sign == QUESTION) {
                for (int i = 0; i < LETTERS; i++) {
                    addSign(place, FIRST_LETTER + i, costs[BLOT]);
                }
            } else if (sign == NEWLINE) {
                addEdge(place, place + 1, 0);
                addSign(place, HYPHEN, costs[KEPT]);
            } else {
                addSign(place, sign, 0);
            }
            if (sign == HYPHEN) {
                addEdge(place, place + 1, costs[SPECK]);
            }
        }

        private void addOthers(int place, int cell) {
            for (int i = 0; i < reading.others[cell]; i++) {
                int one = cell * MOST_OTHERS + i;
                addSign(place, reading.otherLetters[one], reading.otherCosts[one]);
            }
        }

        private void addShapes(int place) {
            for (int shape = 0; shape < shapes.count; shape++) {
                if (standsAt(shape, place)) {
                    addShape(shape, place);
                }
            }
        }

        private boolean standsAt(int shape, int place) {
            int cells = shapes.firstLengths[shape];
            if (place + cells > length) {
                return false;
            }
            for (int k = 0; k < cells; k++) {
                if (read[place + k] != shapes.firsts[shape * MOST_PART + k]) {
                    return false;
                }
            }
            return true;
        }

        private void addShape(int shape, int place) {
            int edge = addEdge(place, place + shapes.firstLengths[shape], shapes.costs[shape]);
            if (edge == NONE) {
                return;
            }
            shapeOf[edge] = shape;
            signCounts[edge] = shapes.secondLengths[shape];
            for (int k = 0; k < signCounts[edge]; k++) {
                signs[edge * MOST_PART + k] = shapes.seconds[shape * MOST_PART + k];
            }
        }

        private void addSign(int place, int sign, int cost) {
            int edge = addEdge(place, place + 1, cost);
            if (edge != NONE) {
                signCounts[edge] = 1;
                signs[edge * MOST_PART] = sign;
            }
        }

        private int addEdge(int place, int behind, int cost) {
            int edge = edges;
            if (edge >= MOST_EDGES) {
                return NONE;
            }
            edges++;
            from[edge] = place;
            to[edge] = behind;
            edgeCosts[edge] = cost;
            signCounts[edge] = 0;
            shapeOf[edge] = NONE;
            return edge;
        }

        private void end() {
            // The last place has no EDGES, but is asked for its first and the one behind its last too.
            firstEdges[length] = edges;
            firstEdges[length + 1] = edges;
            rests[length] = 0;
            for (int place = length - 1; place >= 0; place--) {
                rests[place] = FAR;
                for (int edge = firstEdges[place]; edge < firstEdges[place + 1]; edge++) {
                    rests[place] = Math.min(rests[place], edgeCosts[edge] + rests[to[edge]]);
                }
            }
        }
    }

    /** Best first through the net and the TREE at once. */
    private static final class Search {
        /**
         * What waits is an item: an ANSWER has its WORD's number, a STATE one behind all WORDS, less for a
         * greater place and a lesser NODE. So among alike BOUNDS the least item is the one to be taken.
         */
        static final int ITEMS = MOST_WORDS + (MOST_CELLS + 1) * MOST_NODES;
        static final int ITEM_BITS = 15;
        static final int ITEM_MASK = (1 << ITEM_BITS) - 1;
        /** A heap of all items has no more levels. */
        static final int LEVELS = 16;
        static final int UNSEEN = 0;
        static final int TAKEN = -1;

        private final Lexicon lexicon;
        final Net net;
        int found;
        final int[] words = new int[MOST_WORDS];
        final int[] prices = new int[MOST_WORDS];
        final int[] openedFor = new int[MOST_WORDS];
        private int opened;
        private int waiting;
        /** A heap of keys: BOUND, then item. */
        private final int[] keys = new int[ITEMS];
        /** Of each item: 1 more than its place in the heap, or UNSEEN, or TAKEN. */
        private final int[] slots = new int[ITEMS];
        private int seen;
        private final int[] seenItems = new int[ITEMS];

        Search(Lexicon lexicon, Net net) {
            this.lexicon = lexicon;
            this.net = net;
        }

        /** Takes ANSWERS of the net, in their order, until there are enough or no more. */
        void run(int enough) {
            clear();
            if (lexicon.count == 0) {
                return;
            }
            put(itemOf(0, 0), net.rests[0] + lexicon.least[0]);
            for (int i = 0; i < ITEMS && waiting > 0 && found < enough; i++) {
                int key = takeLeast();
                int item = key & ITEM_MASK;
                if (item < MOST_WORDS) {
                    note(item, key >> ITEM_BITS);
                } else {
                    open(item, key >> ITEM_BITS);
                }
            }
        }

        private void clear() {
            for (int i = 0; i < seen; i++) {
                slots[seenItems[i]] = UNSEEN;
            }
            seen = 0;
            waiting = 0;
            found = 0;
            opened = 0;
        }

        private int itemOf(int place, int node) {
            return MOST_WORDS + (MOST_CELLS - place) * MOST_NODES + node;
        }

        private void note(int word, int price) {
            if (found < MOST_WORDS) {
                words[found] = word;
                prices[found] = price;
                openedFor[found] = opened;
                found++;
            }
        }

        private void open(int item, int bound) {
            int place = MOST_CELLS - (item - MOST_WORDS) / MOST_NODES;
            int node = (item - MOST_WORDS) % MOST_NODES;
            int cost = bound - net.rests[place] - lexicon.least[node];
            opened++;
            int word = lexicon.wordAt[node];
            if (place == net.length && word != NONE) {
                put(word, cost + lexicon.weights[word]);
            }
            for (int edge = net.firstEdges[place]; edge < net.firstEdges[place + 1]; edge++) {
                int next = walk(node, edge);
                if (next != NONE) {
                    int behind = net.to[edge];
                    int more = cost + net.edgeCosts[edge];
                    put(itemOf(behind, next), more + net.rests[behind] + lexicon.least[next]);
                }
            }
        }

        private int walk(int node, int edge) {
            int next = node;
            for (int k = 0; k < net.signCounts[edge] && next != NONE; k++) {
                next = lexicon.childOf(next, net.signs[edge * MOST_PART + k]);
            }
            return next;
        }

        /** Lets an item wait; one that waits already has the lesser BOUND, one that was taken does not come again. */
        private void put(int item, int bound) {
            int key = (bound << ITEM_BITS) | item;
            int slot = slots[item];
            if (slot == UNSEEN && waiting < ITEMS && seen < ITEMS) {
                seenItems[seen] = item;
                seen++;
                waiting++;
                lift(waiting - 1, key);
            } else if (slot > 0 && key < keys[slot - 1]) {
                lift(slot - 1, key);
            }
        }

        private int takeLeast() {
            int least = keys[0];
            waiting--;
            sink(keys[waiting]);
            slots[least & ITEM_MASK] = TAKEN;
            return least;
        }

        private void lift(int start, int key) {
            int hole = start;
            for (int level = 0; level < LEVELS && hole > 0; level++) {
                int above = (hole - 1) / 2;
                if (keys[above] < key) {
                    break;
                }
                keys[hole] = keys[above];
                slots[keys[hole] & ITEM_MASK] = hole + 1;
                hole = above;
            }
            keys[hole] = key;
            slots[key & ITEM_MASK] = hole + 1;
        }

        private void sink(int key) {
            int hole = 0;
            for (int level = 0; level < LEVELS && 2 * hole + 1 < waiting; level++) {
                int below = 2 * hole + 1;
                if (below + 1 < waiting && keys[below + 1] < keys[below]) {
                    below++;
                }
                if (keys[below] > key) {
                    break;
                }
                keys[hole] = keys[below];
                slots[keys[hole] & ITEM_MASK] = hole + 1;
                hole = below;
            }
            keys[hole] = key;
            slots[key & ITEM_MASK] = hole + 1;
        }
    }

    /** What was found, kept until something changes: a row for each TOKEN, each two joined, each WORD read surely. */
    private static final class Answers {
        static final int JOINED = MOST_TOKENS;
        static final int SURELY = JOINED + MOST_TOKENS;
        static final int ROWS = SURELY + MOST_WORDS;

        private final Search search;
        private final Reading reading;
        private final int[] costs;
        private final boolean[] known = new boolean[ROWS];
        final int[] counts = new int[ROWS];
        private final int[] words = new int[ROWS * MOST_WORDS];
        private final int[] prices = new int[ROWS * MOST_WORDS];
        private final int[] opened = new int[ROWS * MOST_WORDS];

        Answers(Search search, Reading reading, int[] costs) {
            this.search = search;
            this.reading = reading;
            this.costs = costs;
        }

        void forgetAll() {
            for (int row = 0; row < ROWS; row++) {
                known[row] = false;
            }
        }

        void lookAlone(int token) {
            if (!known[token]) {
                search.net.ofCells(reading.starts[token], reading.cellsOf(token));
                search.run(MOST_WORDS);
                keep(token);
            }
        }

        void lookSurely(int word) {
            if (!known[SURELY + word]) {
                search.net.ofWord(word);
                search.run(MOST_WORDS);
                keep(SURELY + word);
            }
        }

        /** Only the best WORD is looked for. */
        void lookJoined(int token) {
            if (!known[JOINED + token]) {
                search.net.ofCells(reading.starts[token], joinedCells(token));
                search.run(1);
                keep(JOINED + token);
            }
        }

        private void keep(int row) {
            known[row] = true;
            counts[row] = search.found;
            for (int j = 0; j < search.found; j++) {
                words[row * MOST_WORDS + j] = search.words[j];
                prices[row * MOST_WORDS + j] = search.prices[j];
                opened[row * MOST_WORDS + j] = search.openedFor[j];
            }
        }

        int wordOf(int row, int j) {
            return j >= 0 && j < counts[row] ? words[row * MOST_WORDS + j] : NONE;
        }

        int priceOf(int row, int j) {
            return j >= 0 && j < counts[row] ? prices[row * MOST_WORDS + j] : NONE;
        }

        int openedFor(int row, int j) {
            return j >= 0 && j < counts[row] ? opened[row * MOST_WORDS + j] : NONE;
        }

        int priceFor(int row, int word) {
            for (int j = 0; j < counts[row]; j++) {
                if (words[row * MOST_WORDS + j] == word) {
                    return prices[row * MOST_WORDS + j];
                }
            }
            return NONE;
        }

        int outsidePrice(int token) {
            return costs[OUT] + costs[EACH] * reading.cellsOf(token);
        }

        /** The j-th best WORD, if its PRICE is not above that of OUTSIDE; else NONE. */
        int wordInside(int token, int j) {
            return priceOf(token, j) <= outsidePrice(token) ? wordOf(token, j) : NONE;
        }

        int mendedWord(int token) {
            return wordInside(token, 0);
        }

        int mendedPrice(int token) {
            return mendedWord(token) == NONE ? outsidePrice(token) : priceOf(token, 0);
        }

        int nextCostsMore(int token) {
            int outside = outsidePrice(token);
            if (mendedWord(token) == NONE) {
                return counts[token] == 0 ? NONE : priceOf(token, 0) - outside;
            }
            int next = counts[token] < 2 ? outside : Math.min(outside, priceOf(token, 1));
            return next - priceOf(token, 0);
        }

        int joinedCells(int token) {
            return reading.cellsOf(token) + reading.cellsOf(token + 1);
        }

        boolean mayJoin(int token) {
            return token + 1 < reading.tokens && reading.nearNext[token] && joinedCells(token) <= MOST_CELLS;
        }

        /** The PRICE of a TOKEN LOST with the next one, which was looked for; NONE: they can't be. */
        int joinedPrice(int token) {
            int price = priceOf(JOINED + token, 0);
            int outside = costs[OUT] + costs[EACH] * joinedCells(token);
            return price == NONE || price > outside ? NONE : price + costs[LOST];
        }
    }

    /** The text MENDED, kept until something changes. */
    private static final class MendedText {
        /** Each TOKEN is at most its CELLS or a WORD, with one byte behind it. */
        static final int MOST_LENGTH = MOST_TOKENS * (MOST_CELLS + 1);

        private final Lexicon lexicon;
        private final Reading reading;
        private final Answers answers;
        boolean made;
        int length;
        int prices;
        int pairsLost;
        int outside;
        final int[] bytes = new int[MOST_LENGTH];
        final boolean[] lostWithNext = new boolean[MOST_TOKENS];
        private final int[] leastFrom = new int[MOST_TOKENS + 2];

        MendedText(Lexicon lexicon, Reading reading, Answers answers) {
            this.lexicon = lexicon;
            this.reading = reading;
            this.answers = answers;
        }

        void make() {
            if (made) {
                return;
            }
            leastFrom[reading.tokens] = 0;
            for (int token = reading.tokens - 1; token >= 0; token--) {
                answers.lookAlone(token);
                if (answers.mayJoin(token)) {
                    answers.lookJoined(token);
                }
                choose(token);
            }
            prices = leastFrom[0];
            length = 0;
            pairsLost = 0;
            outside = 0;
            write();
            made = true;
        }

        /** From the last TOKEN back, so that of alike ways the first TOKEN that differs is alone. */
        private void choose(int token) {
            leastFrom[token] = answers.mendedPrice(token) + leastFrom[token + 1];
            lostWithNext[token] = false;
            int joined = answers.mayJoin(token) ? answers.joinedPrice(token) : NONE;
            if (joined != NONE && joined + leastFrom[token + 2] < leastFrom[token]) {
                leastFrom[token] = joined + leastFrom[token + 2];
                lostWithNext[token] = true;
            }
        }

        private void write() {
            int token = 0;
            for (int i = 0; i < MOST_TOKENS && token < reading.tokens; i++) {
                int last = writeOne(token);
                if (last + 1 < reading.tokens) {
                    writeByte(reading.newlineBehind[last] ? NEWLINE : BLANK);
                }
                token = last + 1;
            }
        }

        /** The last TOKEN of what it wrote. */
        private int writeOne(int token) {
            if (lostWithNext[token]) {
                pairsLost++;
                writeWord(answers.wordOf(Answers.JOINED + token, 0));
                // The next one was chosen for as if it began a way of its own; it does not.
                lostWithNext[token + 1] = false;
                return token + 1;
            }
            int word = answers.wordInside(token, 0);
            if (word == NONE) {
                outside++;
                writeCells(token);
            } else {
                writeWord(word);
            }
            return token;
        }

        private void writeWord(int word) {
            for (int k = 0; k < lexicon.lengths[word]; k++) {
                writeByte(lexicon.signOf(word, k));
            }
        }

        private void writeCells(int token) {
            for (int i = reading.starts[token]; i < reading.starts[token + 1]; i++) {
                if (reading.signs[i] != NEWLINE) {
                    writeByte(reading.signs[i]);
                }
            }
        }

        private void writeByte(int one) {
            if (length < MOST_LENGTH) {
                bytes[length] = one;
                length++;
            }
        }
    }

    /** THE SENTENCE, kept until something changes. */
    private static final class Sentence {
        static final int BEST = 4;
        /** Of a TOKEN: its best WORDS by their order, and OUTSIDE behind all. */
        static final int CHOICES = BEST + 1;

        private final Reading reading;
        private final Follows follows;
        private final Answers answers;
        private final int[] costs;
        boolean made;
        int cost;
        int otherwise;
        int outside;
        final int[] saidWords = new int[MOST_TOKENS];
        /** The least cost from a TOKEN on, if it is taken so; FAR, if it can't be. */
        private final int[] leastFrom = new int[MOST_TOKENS * CHOICES];
        private final int[] nextChoice = new int[MOST_TOKENS * CHOICES];

        Sentence(Reading reading, Follows follows, Answers answers, int[] costs) {
            this.reading = reading;
            this.follows = follows;
            this.answers = answers;
            this.costs = costs;
        }

        void make() {
            if (made) {
                return;
            }
            for (int token = reading.tokens - 1; token >= 0; token--) {
                answers.lookAlone(token);
                for (int choice = 0; choice < CHOICES; choice++) {
                    weighChoice(token, choice);
                }
            }
            cost = 0;
            otherwise = 0;
            outside = 0;
            say();
            made = true;
        }

        private void weighChoice(int token, int choice) {
            int one = token * CHOICES + choice;
            int word = wordOfChoice(token, choice);
            leastFrom[one] = FAR;
            nextChoice[one] = 0;
            if (word == NONE && choice < BEST) {
                return;
            }
            int price = word == NONE ? answers.outsidePrice(token) : answers.priceOf(token, choice);
            if (token + 1 >= reading.tokens) {
                leastFrom[one] = price;
                return;
            }
            for (int next = 0; next < CHOICES; next++) {
                int behind = leastFrom[(token + 1) * CHOICES + next];
                int sum = price + behind + between(word, wordOfChoice(token + 1, next));
                if (behind < FAR && sum < leastFrom[one]) {
                    leastFrom[one] = sum;
                    nextChoice[one] = next;
                }
            }
        }

        private int wordOfChoice(int token, int choice) {
            return choice < BEST ? answers.wordInside(token, choice) : NONE;
        }

        private int between(int word, int next) {
            return word == NONE || next == NONE ? 0 : follows.dearOf(word, next, costs[STRANGE]);
        }

        private void say() {
            if (reading.tokens == 0) {
                return;
            }
            int choice = 0;
            for (int i = 1; i < CHOICES; i++) {
                if (leastFrom[i] < leastFrom[choice]) {
                    choice = i;
                }
            }
            cost = leastFrom[choice];
            for (int token = 0; token < reading.tokens; token++) {
                int word = wordOfChoice(token, choice);
                saidWords[token] = word;
                outside += word == NONE ? 1 : 0;
                otherwise += word == answers.mendedWord(token) ? 0 : 1;
                choice = nextChoice[token * CHOICES + choice];
            }
        }
    }

    /** The EDGES of the net that spell a WORD at least COST, the first ones of their places. */
    private static final class Way {
        static final int SIGNS = MOST_SIGNS + 1;

        private final Net net;
        private final Lexicon lexicon;
        int steps;
        int cost;
        final int[] taken = new int[MOST_CELLS];
        /** The least COST from a place on to spell the WORD from a sign on; FAR: it can't be. */
        private final int[] needs = new int[(MOST_CELLS + 1) * SIGNS];

        Way(Net net, Lexicon lexicon) {
            this.net = net;
            this.lexicon = lexicon;
        }

        void spell(int word) {
            int length = lexicon.lengths[word];
            for (int place = net.length; place >= 0; place--) {
                for (int k = 0; k <= length; k++) {
                    needs[place * SIGNS + k] = place == net.length && k == length ? 0 : needAt(word, place, k);
                }
            }
            cost = needs[0];
            follow(word);
        }

        private int needAt(int word, int place, int k) {
            int least = FAR;
            for (int edge = net.firstEdges[place]; edge < net.firstEdges[place + 1]; edge++) {
                least = Math.min(least, needBy(word, edge, k));
            }
            return least;
        }

        private int needBy(int word, int edge, int k) {
            int signs = net.signCounts[edge];
            if (k + signs > lexicon.lengths[word]) {
                return FAR;
            }
            for (int i = 0; i < signs; i++) {
                if (lexicon.signOf(word, k + i) != net.signs[edge * MOST_PART + i]) {
                    return FAR;
                }
            }
            return Math.min(FAR, net.edgeCosts[edge] + needs[net.to[edge] * SIGNS + k + signs]);
        }

        private void follow(int word) {
            steps = 0;
            int place = 0;
            int k = 0;
            while (steps < MOST_CELLS && place < net.length) {
                int edge = firstBest(word, place, k);
                if (edge == NONE) {
                    return;
                }
                taken[steps] = edge;
                steps++;
                place = net.to[edge];
                k += net.signCounts[edge];
            }
        }

        private int firstBest(int word, int place, int k) {
            int need = needs[place * SIGNS + k];
            for (int edge = net.firstEdges[place]; edge < net.firstEdges[place + 1]; edge++) {
                if (need < FAR && needBy(word, edge, k) == need) {
                    return edge;
                }
            }
            return NONE;
        }

        int countShape(int shape) {
            int often = 0;
            for (int i = 0; i < steps; i++) {
                if (net.shapeOf[taken[i]] == shape) {
                    often++;
                }
            }
            return often;
        }
    }
}
