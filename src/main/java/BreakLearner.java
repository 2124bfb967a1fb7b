import java.util.Arrays;

/**
 * Where words may be broken, learnt from words. The promises stand in DOC.md.
 *
 * All rows are made by the constructors and used again: no call makes an object.
 */
public final class BreakLearner {
    public static final int UNKNOWN = -1, BAD = -2, LATE = -3, FULL = -4, NONE = -9;

    private static final int TEXT_MOST = 64;
    private static final int WORDS_MOST = 6;
    private static final int LETTERS_MOST = 6;
    private static final int PLACES_MOST = 5;
    private static final int ALL_PLACES = WORDS_MOST * PLACES_MOST;
    private static final int ALL_WORDS = (1 << WORDS_MOST) - 1;
    private static final int LEVELS = 4;
    private static final int RULES = 3;
    private static final int H_MOST = 9;
    private static final int DOINGS_MOST = 14;
    private static final int SEEN_MOST = 6;
    private static final int SEEN_LETTERS = 3;
    private static final int SEEN_WORDS = 125;
    private static final int JUDGED_MOST = 3;
    private static final int SHELVES = 2;
    private static final int DRAWN_MOST = 20;
    private static final int DRAWN_LETTERS = 4;
    private static final int TENTHS = 10;

    private static final int STOP = 6;
    private static final int GAPS = 4;
    /** A node is its figures read to the base 7, so that fewer signs, then lesser figures, come first. */
    private static final int SIGN_BASE = 7;
    private static final int NODES_WITH_LONGER = SIGN_BASE * SIGN_BASE;
    private static final int NODES = SIGN_BASE * SIGN_BASE * SIGN_BASE;

    /** A shape is how many signs a pattern has, with its gap. */
    private static final int SHAPES = 9;
    private static final int[] SHAPE_SIGNS = {1, 1, 2, 2, 2, 3, 3, 3, 3};
    private static final int[] SHAPE_GAP = {0, 1, 0, 1, 2, 0, 1, 2, 3};
    /** Shapes of n signs are FIRST_SHAPE[n] .. FIRST_SHAPE[n + 1] - 1. */
    private static final int[] FIRST_SHAPE = {0, 0, 2, 5, 9};
    private static final int SIGNS_MOST = 3;
    private static final int PATTERNS_MOST = ALL_PLACES * SHAPES;

    private static final int ADDED = 1, DROPPED = 2, TURNED = 3, RULED = 4, STUDIED = 5;

    private static final int[] FACTORIAL = {1, 1, 2, 6, 24, 120, 720};
    private static final long[] ROW_BOUND = {1L, 100000L, 10000000000L, 1000000000000000L};

    private static final long SEED_TIMES = 6364136223846793005L;
    private static final long SEED_MORE = 1442695040888963407L;

    private final Text text;
    private final Stock stock;
    private final Index index;
    private final Learning learning;
    private final Doings doings;
    private final Tree tree;
    private final Seen seen;
    private final Judge judging;
    private final Chances chances;
    private final Stock[] shelves;
    private final boolean[] onShelf;
    private long theSeed;

    public BreakLearner() {
        text = new Text();
        stock = new Stock();
        index = new Index();
        learning = new Learning(index);
        doings = new Doings();
        tree = new Tree();
        seen = new Seen();
        Learning trial = new Learning(index);
        judging = new Judge(trial);
        chances = new Chances(trial);
        shelves = new Stock[SHELVES];
        for (int i = 0; i < SHELVES; i++) {
            shelves[i] = new Stock();
        }
        onShelf = new boolean[SHELVES];
        theSeed = 0L;
    }

    // ---- the list

    public int write(int letter) {
        if (letter < 0 || letter > 255) {
            return BAD;
        }
        return text.append(letter) ? text.length : FULL;
    }

    public int wipe() {
        int was = text.length;
        text.length = 0;
        return was;
    }

    public int fault() {
        return text.firstFault();
    }

    public int list() {
        if (text.firstFault() != NONE) {
            return LATE;
        }
        text.readInto(stock);
        stock.learnt = 0;
        doings.count = 0;
        for (int i = 0; i < SHELVES; i++) {
            onShelf[i] = false;
        }
        learnAnew();
        return stock.words;
    }

    public int about(int what) {
        switch (what) {
            case 0: return stock.words;
            case 1: return stock.allPlaces();
            case 2: return learning.rightPlaces(stock);
            case 3: return stock.learnt;
            case 4: return learning.countAll();
            case 5: return learning.wrongWords(stock);
            case 6: return packedTree().count;
            case 7: return packedTree().end;
            case 8: return doings.count;
            case 9: return seen.count;
            case 10: return text.length;
            default: return BAD;
        }
    }

    public int word(int word, int what) {
        if (!stock.hasWord(word)) {
            return UNKNOWN;
        }
        switch (what) {
            case 0: return stock.letters[word];
            case 1: return stock.breaks[word];
            case 2: return learning.brokenPlaces(stock, word);
            default: return BAD;
        }
    }

    public int digit(int word, int place) {
        return stock.hasPlace(word, place) ? learning.digitOf(word, place) : UNKNOWN;
    }

    public int level(int level, int what) {
        if (!isLevel(level)) {
            return UNKNOWN;
        }
        switch (what) {
            case 0: return stock.rules[level];
            case 1: return stock.hs[level];
            case 2: return learning.countOf(level);
            default: return BAD;
        }
    }

    public int pattern(int string, int gap) {
        int node = Figures.nodeOf(string);
        if (!Figures.isPattern(node, gap)) {
            return BAD;
        }
        return learning.levelOf(node, gap);
    }

    // ---- doings

    public int add(int letters, int breaks) {
        int size = Figures.wordSize(letters);
        if (size == 0 || breaks < 0 || breaks >= 1 << (size - 1)) {
            return BAD;
        }
        if (stock.words >= WORDS_MOST) {
            return FULL;
        }
        stock.putAt(stock.words, letters, breaks);
        doings.note(ADDED, 0, 0, 0);
        learnAnew();
        return stock.words;
    }

    public int drop(int word) {
        if (!stock.hasWord(word)) {
            return UNKNOWN;
        }
        int letters = stock.letters[word];
        doings.note(DROPPED, word, letters, stock.breaks[word]);
        stock.takeAt(word);
        learnAnew();
        return letters;
    }

    public int turn(int word, int place) {
        if (!stock.hasPlace(word, place)) {
            return UNKNOWN;
        }
        stock.flip(word, place);
        doings.note(TURNED, word, place, 0);
        learnAnew();
        return stock.breaks[word] >> place & 1;
    }

    public int rule(int level, int rule, int h) {
        if (!isLevel(level)) {
            return UNKNOWN;
        }
        if (!isRule(rule, h)) {
            return BAD;
        }
        doings.note(RULED, level, stock.rules[level], stock.hs[level]);
        stock.setRule(level, rule, h);
        learnAnew();
        return learning.rightPlaces(stock);
    }

    public int study() {
        if (stock.learnt >= LEVELS) {
            return FULL;
        }
        stock.learnt++;
        doings.note(STUDIED, 0, 0, 0);
        learnAnew();
        return learning.countOf(stock.learnt);
    }

    public int undo() {
        if (doings.count == 0) {
            return LATE;
        }
        doings.takeBack(stock);
        learnAnew();
        return doings.count;
    }

    // ---- the tree, other words

    public int base(int string) {
        int node = string == 0 ? 0 : Figures.nodeOf(string);
        if (node < 0) {
            return BAD;
        }
        return packedTree().baseOf(node);
    }

    public int slot(int i) {
        if (i < 0) {
            return BAD;
        }
        return packedTree().nodeIn(i);
    }

    public int ask(int letters, int i) {
        int size = Figures.wordSize(letters);
        if (size == 0) {
            return BAD;
        }
        if (i < 0 || i >= size - 1) {
            return UNKNOWN;
        }
        index.spell(letters, size);
        return learning.digitOfSpelt(i);
    }

    public int earns(int string) {
        int node = Figures.nodeOf(string);
        if (!Figures.isString(node)) {
            return BAD;
        }
        return learning.rightPlaces(stock) - learning.rightWithout(stock, node);
    }

    public int judge(int n, long row) {
        if (n < 1 || n > JUDGED_MOST || row < 0 || row >= ROW_BOUND[n]) {
            return BAD;
        }
        return judging.firstWrong(stock, n, row);
    }

    public int share(int word, boolean upper) {
        if (!stock.hasWord(word)) {
            return UNKNOWN;
        }
        return chances.shareOf(stock, word, upper);
    }

    // ---- seen

    public int see(int i, int d, int had) {
        if (i < 0 || i > 1 || d < 0 || d > LEVELS || had < 0 || had > 1) {
            return BAD;
        }
        return seen.append(i, d, had == 1) ? seen.count : FULL;
    }

    public int unsee() {
        int was = seen.count;
        seen.count = 0;
        return was;
    }

    public int which(int what) {
        if (what < 0 || what > 1) {
            return BAD;
        }
        return what == 0 ? seen.countWords(learning) : seen.firstWord(learning);
    }

    // ---- chances

    public int lost(int v, int x, boolean upper) {
        if (v < 0 || v > ALL_PLACES || x < 0 || x > TENTHS) {
            return BAD;
        }
        return chances.chanceOf(stock, v, x, upper);
    }

    public long seed(long v) {
        long was = theSeed;
        theSeed = v;
        return was;
    }

    public int drawn(int m) {
        if (m < 1 || m > DRAWN_MOST) {
            return BAD;
        }
        int sum = 0;
        for (int i = 0; i < m; i++) {
            theSeed = theSeed * SEED_TIMES + SEED_MORE;
            sum += digitsOfDrawn((int) (theSeed >>> 33));
        }
        return sum;
    }

    // ---- kept

    public int keep(int shelf) {
        if (!isShelf(shelf)) {
            return UNKNOWN;
        }
        shelves[shelf].copyFrom(stock);
        onShelf[shelf] = true;
        return stock.words;
    }

    public int again(int shelf) {
        if (!isShelf(shelf)) {
            return UNKNOWN;
        }
        if (!onShelf[shelf]) {
            return LATE;
        }
        stock.copyFrom(shelves[shelf]);
        doings.count = 0;
        learnAnew();
        return stock.words;
    }

    // ---- what the calls share

    private void learnAnew() {
        index.takeFrom(stock);
        learning.learnFrom(stock, ALL_WORDS);
        tree.packed = false;
        chances.valued = false;
    }

    private Tree packedTree() {
        tree.packFrom(learning);
        return tree;
    }

    private int digitsOfDrawn(int bits) {
        int letters = 0;
        for (int i = 0; i < DRAWN_LETTERS; i++) {
            letters = letters * 10 + (bits >> 3 * i) % 5 + 1;
        }
        index.spell(letters, DRAWN_LETTERS);
        int sum = 0;
        for (int place = 0; place < DRAWN_LETTERS - 1; place++) {
            sum += learning.digitOfSpelt(place);
        }
        return sum;
    }

    private static boolean isLevel(int level) {
        return level >= 1 && level <= LEVELS;
    }

    private static boolean isRule(int rule, int h) {
        return rule >= 0 && rule < RULES && h >= 1 && h <= H_MOST;
    }

    private static boolean isShelf(int shelf) {
        return shelf >= 0 && shelf < SHELVES;
    }

    /** Words and strings as they are told: as figures. */
    private static final class Figures {

        /** How many letters a word has that is told so; 0: it is no word. */
        static int wordSize(int letters) {
            if (letters < 11 || letters > 555555) {
                return 0;
            }
            int size = 0;
            int rest = letters;
            for (int i = 0; i < LETTERS_MOST && rest > 0; i++) {
                int figure = rest % 10;
                if (figure < 1 || figure > 5) {
                    return 0;
                }
                rest /= 10;
                size++;
            }
            return size;
        }

        /** The node of 1 .. 3 figures 1 .. 6; -1: they are none. */
        static int nodeOf(int figures) {
            if (figures < 1 || figures > 666) {
                return -1;
            }
            int node = 0;
            int rest = figures;
            int weight = 1;
            for (int i = 0; i < SIGNS_MOST && rest > 0; i++) {
                int figure = rest % 10;
                if (figure < 1 || figure > STOP) {
                    return -1;
                }
                node += figure * weight;
                weight *= SIGN_BASE;
                rest /= 10;
            }
            return node;
        }

        static int figuresOf(int node) {
            return node / NODES_WITH_LONGER * 100 + node / SIGN_BASE % SIGN_BASE * 10 + node % SIGN_BASE;
        }

        static int signsOf(int node) {
            if (node >= NODES_WITH_LONGER) {
                return 3;
            }
            return node >= SIGN_BASE ? 2 : 1;
        }

        /** A node of nodeOf, if it is a string of a pattern: a letter at least, no full stop inside. */
        static boolean isString(int node) {
            if (node < 1 || node == STOP || node == STOP * SIGN_BASE + STOP) {
                return false;
            }
            return node < NODES_WITH_LONGER || node / SIGN_BASE % SIGN_BASE != STOP;
        }

        static boolean isPattern(int node, int gap) {
            return isString(node) && gap >= 0 && gap <= signsOf(node);
        }
    }

    /** The text, letter by letter, and the list that it may be. */
    private static final class Text {
        final int[] signs = new int[TEXT_MOST];
        int length;

        boolean append(int letter) {
            if (length >= TEXT_MOST) {
                return false;
            }
            signs[length] = letter;
            length++;
            return true;
        }

        int firstFault() {
            int words = 0;
            int size = 0;
            boolean hyphen = false;
            for (int i = 0; i < length; i++) {
                int sign = signs[i];
                boolean open = words > 0 && (size < 2 || hyphen);
                if (sign == 'W') {
                    if (open || words == WORDS_MOST) {
                        return i;
                    }
                    words++;
                    size = 0;
                } else if (sign == '-') {
                    if (size == 0 || size == LETTERS_MOST || hyphen) {
                        return i;
                    }
                } else {
                    if (!isLetter(sign) || words == 0 || size == LETTERS_MOST) {
                        return i;
                    }
                    size++;
                }
                hyphen = sign == '-';
            }
            return words > 0 && (size < 2 || hyphen) ? length : NONE;
        }

        /** To be called only if there is no fault. */
        void readInto(Stock stock) {
            stock.words = 0;
            int letters = 0;
            int breaks = 0;
            int size = 0;
            for (int i = 0; i < length; i++) {
                int sign = signs[i];
                if (sign == 'W') {
                    letters = 0;
                    breaks = 0;
                    size = 0;
                } else if (sign == '-') {
                    breaks |= 1 << (size - 1);
                } else {
                    letters = letters * 10 + sign - 'a' + 1;
                    size++;
                }
                if (i + 1 == length || signs[i + 1] == 'W') {
                    stock.putAt(stock.words, letters, breaks);
                }
            }
        }

        static boolean isLetter(int sign) {
            return sign >= 'a' && sign <= 'e';
        }
    }

    /** Words, rules, and how many levels are learnt: all from which the rest follows. */
    private static final class Stock {
        final int[] letters = new int[WORDS_MOST];
        final int[] breaks = new int[WORDS_MOST];
        final int[] sizes = new int[WORDS_MOST];
        final int[] rules = new int[LEVELS + 1];
        final int[] hs = new int[LEVELS + 1];
        int words;
        int learnt;

        Stock() {
            Arrays.fill(hs, 1);
        }

        void copyFrom(Stock other) {
            System.arraycopy(other.letters, 0, letters, 0, WORDS_MOST);
            System.arraycopy(other.breaks, 0, breaks, 0, WORDS_MOST);
            System.arraycopy(other.sizes, 0, sizes, 0, WORDS_MOST);
            System.arraycopy(other.rules, 0, rules, 0, LEVELS + 1);
            System.arraycopy(other.hs, 0, hs, 0, LEVELS + 1);
            words = other.words;
            learnt = other.learnt;
        }

        boolean hasWord(int word) {
            return word >= 0 && word < words;
        }

        boolean hasPlace(int word, int place) {
            return hasWord(word) && place >= 0 && place < sizes[word] - 1;
        }

        int allPlaces() {
            int sum = 0;
            for (int word = 0; word < words; word++) {
                sum += sizes[word] - 1;
            }
            return sum;
        }

        void putAt(int at, int newLetters, int newBreaks) {
            if (at < 0 || at > words || words >= WORDS_MOST) {
                return;
            }
            for (int i = words; i > at; i--) {
                move(i - 1, i);
            }
            letters[at] = newLetters;
            breaks[at] = newBreaks;
            sizes[at] = Figures.wordSize(newLetters);
            words++;
        }

        void takeAt(int at) {
            if (!hasWord(at)) {
                return;
            }
            for (int i = at; i + 1 < words; i++) {
                move(i + 1, i);
            }
            words--;
        }

        private void move(int from, int to) {
            letters[to] = letters[from];
            breaks[to] = breaks[from];
            sizes[to] = sizes[from];
        }

        void flip(int word, int place) {
            if (hasPlace(word, place)) {
                breaks[word] ^= 1 << place;
            }
        }

        void setRule(int level, int newRule, int newH) {
            if (isLevel(level)) {
                rules[level] = newRule;
                hs[level] = newH;
            }
        }
    }

    /** The patterns that fit a place of a word, numbered, shorter ones ahead, and where each fits. */
    private static final class Index {
        /** By node and gap: 1 more than the pattern's number; 0: it fits nowhere. */
        final int[] numbers = new int[NODES * GAPS];
        final int[] codes = new int[PATTERNS_MOST];
        /** By word, place and shape: the number of the pattern that fits; -1: none lies there. */
        final int[] fits = new int[PATTERNS_MOST];
        int known;
        /** Patterns of n signs are starts[n] .. starts[n + 1] - 1. */
        final int[] starts = new int[SIGNS_MOST + 2];
        /** The word that was spelt last, a full stop ahead and behind. */
        final int[] signs = new int[LETTERS_MOST + 2];
        int size;

        void takeFrom(Stock stock) {
            forget();
            for (int length = 1; length <= SIGNS_MOST; length++) {
                starts[length] = known;
                for (int word = 0; word < stock.words; word++) {
                    spell(stock.letters[word], stock.sizes[word]);
                    takeWord(word, length);
                }
            }
            starts[SIGNS_MOST + 1] = known;
        }

        private void forget() {
            for (int i = 0; i < known; i++) {
                numbers[codes[i]] = 0;
            }
            known = 0;
        }

        private void takeWord(int word, int length) {
            for (int place = 0; place < size - 1; place++) {
                int at = word * PLACES_MOST + place;
                for (int shape = FIRST_SHAPE[length]; shape < FIRST_SHAPE[length + 1]; shape++) {
                    int code = codeAt(place, shape);
                    fits[at * SHAPES + shape] = code < 0 ? -1 : numberFor(code);
                }
            }
        }

        private int numberFor(int code) {
            if (numbers[code] == 0 && known < PATTERNS_MOST) {
                codes[known] = code;
                known++;
                numbers[code] = known;
            }
            return numbers[code] - 1;
        }

        void spell(int letters, int newSize) {
            size = Math.max(0, Math.min(newSize, LETTERS_MOST));
            signs[0] = STOP;
            signs[size + 1] = STOP;
            int rest = letters;
            for (int i = size; i > 0; i--) {
                signs[i] = rest % 10;
                rest /= 10;
            }
        }

        /** Node and gap of the pattern of a shape that fits a place of the word spelt; -1: none does. */
        int codeAt(int place, int shape) {
            int gap = SHAPE_GAP[shape];
            int start = place + 2 - gap;
            int end = start + SHAPE_SIGNS[shape];
            if (start < 0 || end > size + 2) {
                return -1;
            }
            int node = 0;
            for (int i = start; i < end; i++) {
                node = node * SIGN_BASE + signs[i];
            }
            return node * GAPS + gap;
        }
    }

    /** What is learnt: levels of patterns, and digits of places by them. */
    private static final class Learning {
        final Index index;
        final int[] levels = new int[PATTERNS_MOST];
        final int[] good = new int[PATTERNS_MOST];
        final int[] bad = new int[PATTERNS_MOST];
        final int[] digits = new int[ALL_PLACES];

        Learning(Index index) {
            this.index = index;
        }

        /** Learns from the words whose bits are set; digits are those of all words. */
        void learnFrom(Stock stock, int mask) {
            Arrays.fill(levels, 0, index.known, 0);
            Arrays.fill(digits, 0);
            for (int level = 1; level <= stock.learnt; level++) {
                Arrays.fill(good, 0, index.known, 0);
                Arrays.fill(bad, 0, index.known, 0);
                for (int length = 1; length <= SIGNS_MOST; length++) {
                    if (countWords(stock, mask, level, length)) {
                        keepPatterns(stock, level, length);
                        raiseDigits(stock, level, length);
                    }
                }
            }
        }

        /** Whether any pattern does good: if none does, no rule keeps one. */
        private boolean countWords(Stock stock, int mask, int level, int length) {
            boolean odd = level % 2 == 1;
            boolean anyGood = false;
            for (int word = 0; word < stock.words; word++) {
                if ((mask >> word & 1) == 0) {
                    continue;
                }
                for (int place = 0; place < stock.sizes[word] - 1; place++) {
                    boolean broken = digitOf(word, place) % 2 == 1;
                    boolean wanted = (stock.breaks[word] >> place & 1) == 1;
                    int at = word * PLACES_MOST + place;
                    if (odd ? wanted && !broken : broken && !wanted) {
                        countPlace(good, at, length);
                        anyGood = true;
                    } else if (odd ? !wanted : broken) {
                        countPlace(bad, at, length);
                    }
                }
            }
            return anyGood;
        }

        private void countPlace(int[] counts, int at, int length) {
            for (int shape = FIRST_SHAPE[length]; shape < FIRST_SHAPE[length + 1]; shape++) {
                int number = index.fits[at * SHAPES + shape];
                if (number >= 0) {
                    counts[number]++;
                }
            }
        }

        private void keepPatterns(Stock stock, int level, int length) {
            for (int i = index.starts[length]; i < index.starts[length + 1]; i++) {
                if (isKept(stock.rules[level], stock.hs[level], good[i], bad[i])) {
                    levels[i] = level;
                }
            }
        }

        private static boolean isKept(int rule, int h, int doesGood, int doesHarm) {
            if (doesGood < 1) {
                return false;
            }
            switch (rule) {
                case 0: return doesGood - doesHarm >= h;
                case 1: return doesHarm == 0 && doesGood >= h;
                default: return doesGood >= h * doesHarm + h;
            }
        }

        /** No level learnt so far is greater, so a pattern just kept sets the digit where it fits. */
        private void raiseDigits(Stock stock, int level, int length) {
            for (int word = 0; word < stock.words; word++) {
                for (int place = 0; place < stock.sizes[word] - 1; place++) {
                    int at = word * PLACES_MOST + place;
                    for (int shape = FIRST_SHAPE[length]; shape < FIRST_SHAPE[length + 1]; shape++) {
                        int number = index.fits[at * SHAPES + shape];
                        if (number >= 0 && levels[number] == level) {
                            digits[at] = level;
                        }
                    }
                }
            }
        }

        int digitOf(int word, int place) {
            return digits[word * PLACES_MOST + place];
        }

        int brokenPlaces(Stock stock, int word) {
            int bits = 0;
            for (int place = 0; place < stock.sizes[word] - 1; place++) {
                bits |= (digitOf(word, place) & 1) << place;
            }
            return bits;
        }

        int wrongPlaces(Stock stock, int word) {
            return brokenPlaces(stock, word) ^ stock.breaks[word];
        }

        int rightPlaces(Stock stock) {
            int sum = 0;
            for (int word = 0; word < stock.words; word++) {
                sum += stock.sizes[word] - 1 - Integer.bitCount(wrongPlaces(stock, word));
            }
            return sum;
        }

        int wrongWords(Stock stock) {
            int bits = 0;
            for (int word = 0; word < stock.words; word++) {
                if (wrongPlaces(stock, word) != 0) {
                    bits |= 1 << word;
                }
            }
            return bits;
        }

        /** How many places would be right if no pattern had this string. */
        int rightWithout(Stock stock, int node) {
            int sum = 0;
            for (int word = 0; word < stock.words; word++) {
                for (int place = 0; place < stock.sizes[word] - 1; place++) {
                    int broken = digitWithout(word * PLACES_MOST + place, node) & 1;
                    if (broken == (stock.breaks[word] >> place & 1)) {
                        sum++;
                    }
                }
            }
            return sum;
        }

        private int digitWithout(int at, int node) {
            int greatest = 0;
            for (int shape = 0; shape < SHAPES; shape++) {
                int number = index.fits[at * SHAPES + shape];
                if (number >= 0 && index.codes[number] / GAPS != node) {
                    greatest = Math.max(greatest, levels[number]);
                }
            }
            return greatest;
        }

        /** The digit of a place of the word that the index has spelt. */
        int digitOfSpelt(int place) {
            int greatest = 0;
            for (int shape = 0; shape < SHAPES; shape++) {
                int code = index.codeAt(place, shape);
                if (code >= 0) {
                    greatest = Math.max(greatest, levelByCode(code));
                }
            }
            return greatest;
        }

        int levelOf(int node, int gap) {
            return levelByCode(node * GAPS + gap);
        }

        private int levelByCode(int code) {
            int number = index.numbers[code] - 1;
            return number >= 0 ? levels[number] : 0;
        }

        int countOf(int level) {
            int count = 0;
            for (int i = 0; i < index.known; i++) {
                if (levels[i] == level) {
                    count++;
                }
            }
            return count;
        }

        int countAll() {
            return index.known - countOf(0);
        }
    }

    /** The doings that can be undone, the oldest first. */
    private static final class Doings {
        final int[] kinds = new int[DOINGS_MOST];
        final int[] wheres = new int[DOINGS_MOST];
        final int[] firsts = new int[DOINGS_MOST];
        final int[] seconds = new int[DOINGS_MOST];
        int count;

        /** Where is a word or a level; first and second are what was there (of a turn, first is the place). */
        void note(int kind, int where, int first, int second) {
            if (count >= DOINGS_MOST) {
                forgetFirst();
            }
            kinds[count] = kind;
            wheres[count] = where;
            firsts[count] = first;
            seconds[count] = second;
            count++;
        }

        private void forgetFirst() {
            for (int i = 1; i < DOINGS_MOST; i++) {
                kinds[i - 1] = kinds[i];
                wheres[i - 1] = wheres[i];
                firsts[i - 1] = firsts[i];
                seconds[i - 1] = seconds[i];
            }
            count = DOINGS_MOST - 1;
        }

        void takeBack(Stock stock) {
            if (count < 1) {
                return;
            }
            count--;
            int where = wheres[count];
            switch (kinds[count]) {
                case ADDED:
                    stock.takeAt(stock.words - 1);
                    break;
                case DROPPED:
                    stock.putAt(where, firsts[count], seconds[count]);
                    break;
                case TURNED:
                    stock.flip(where, firsts[count]);
                    break;
                case RULED:
                    stock.setRule(where, firsts[count], seconds[count]);
                    break;
                default:
                    stock.learnt = Math.max(0, stock.learnt - 1);
            }
        }
    }

    /** The tree of all patterns, packed into one row of slots. */
    private static final class Tree {
        /** A base is at most the greatest slot used ahead of it, so each node with longer ones adds 6 slots at most. */
        private static final int SLOTS = NODES_WITH_LONGER * STOP + SIGN_BASE;

        final boolean[] isNode = new boolean[NODES];
        final int[] bases = new int[NODES_WITH_LONGER];
        /** By slot: the node that lies there; 0: it is free (the empty node lies nowhere). */
        final int[] slots = new int[SLOTS];
        int count;
        int end;
        boolean packed;

        void packFrom(Learning learning) {
            if (packed) {
                return;
            }
            takeNodes(learning);
            Arrays.fill(slots, 0);
            end = 0;
            for (int node = 0; node < NODES_WITH_LONGER; node++) {
                bases[node] = NONE;
                if (hasLonger(node)) {
                    placeLonger(node, leastBase(node));
                }
            }
            packed = true;
        }

        private void takeNodes(Learning learning) {
            for (int node = 0; node < NODES; node++) {
                isNode[node] = false;
            }
            count = 0;
            for (int i = 0; i < learning.index.known; i++) {
                if (learning.levels[i] > 0) {
                    int node = learning.index.codes[i] / GAPS;
                    takeNode(node);
                    takeNode(node / SIGN_BASE);
                    takeNode(node / NODES_WITH_LONGER);
                    takeNode(0);
                }
            }
        }

        private void takeNode(int node) {
            if (!isNode[node]) {
                isNode[node] = true;
                count++;
            }
        }

        /** Figure 0 is no sign: node 0 would be its own child by it. */
        private boolean hasLonger(int node) {
            for (int figure = 1; figure <= STOP; figure++) {
                if (isNode[node * SIGN_BASE + figure]) {
                    return true;
                }
            }
            return false;
        }

        private int leastBase(int node) {
            for (int base = 0; base + STOP < SLOTS; base++) {
                if (isFree(node, base)) {
                    return base;
                }
            }
            return SLOTS - SIGN_BASE;
        }

        private boolean isFree(int node, int base) {
            for (int figure = 1; figure <= STOP; figure++) {
                if (isNode[node * SIGN_BASE + figure] && slots[base + figure] != 0) {
                    return false;
                }
            }
            return true;
        }

        private void placeLonger(int node, int base) {
            bases[node] = base;
            for (int figure = 1; figure <= STOP; figure++) {
                int longer = node * SIGN_BASE + figure;
                if (isNode[longer]) {
                    slots[base + figure] = longer;
                    end = Math.max(end, base + figure + 1);
                }
            }
        }

        int baseOf(int node) {
            return node >= 0 && node < NODES_WITH_LONGER ? bases[node] : NONE;
        }

        int nodeIn(int slot) {
            boolean free = slot < 0 || slot >= SLOTS || slots[slot] == 0;
            return free ? NONE : Figures.figuresOf(slots[slot]);
        }
    }

    /** What was seen of an unknown word of three letters. */
    private static final class Seen {
        final int[] places = new int[SEEN_MOST];
        final int[] digits = new int[SEEN_MOST];
        final boolean[] hads = new boolean[SEEN_MOST];
        int count;

        boolean append(int place, int digit, boolean had) {
            if (count >= SEEN_MOST) {
                return false;
            }
            places[count] = place;
            digits[count] = digit;
            hads[count] = had;
            count++;
            return true;
        }

        int countWords(Learning learning) {
            int words = 0;
            for (int i = 0; i < SEEN_WORDS; i++) {
                if (agrees(learning, lettersOf(i))) {
                    words++;
                }
            }
            return words;
        }

        int firstWord(Learning learning) {
            for (int i = 0; i < SEEN_WORDS; i++) {
                if (agrees(learning, lettersOf(i))) {
                    return lettersOf(i);
                }
            }
            return NONE;
        }

        private static int lettersOf(int i) {
            return (i / 25 + 1) * 100 + (i / 5 % 5 + 1) * 10 + i % 5 + 1;
        }

        private boolean agrees(Learning learning, int letters) {
            learning.index.spell(letters, SEEN_LETTERS);
            for (int i = 0; i < count; i++) {
                if (learning.digitOfSpelt(places[i]) == digits[i] != hads[i]) {
                    return false;
                }
            }
            return true;
        }
    }

    /** Tries told doings on a copy; it has the letters of the words that the index was made from. */
    private static final class Judge {
        final Stock tried = new Stock();
        final Learning learning;

        Judge(Learning trial) {
            learning = trial;
        }

        int firstWrong(Stock stock, int n, long row) {
            tried.copyFrom(stock);
            learning.learnFrom(tried, ALL_WORDS);
            for (int i = 0; i < n; i++) {
                if (!goesOn((int) (row / ROW_BOUND[n - 1 - i] % 100000L))) {
                    return i;
                }
            }
            return NONE;
        }

        private boolean goesOn(int told) {
            int a = told / 1000 % 10;
            int b = told / 100 % 10;
            int tens = told / 10 % 10;
            int rest = told % 100;
            switch (told / 10000) {
                case 1: return rest == 0 && turns(a, b);
                case 2: return tens == 0 && rules(a, b, rest);
                case 3: return told % 10000 == 0 && studies();
                case 4: return tens == 0 && tried.hasPlace(a, b) && learning.digitOf(a, b) == rest;
                case 5: return told % 1000 == 0 && tried.hasWord(a) && learning.wrongPlaces(tried, a) == 0;
                case 6: return told % 10000 == rest && learning.rightPlaces(tried) >= rest;
                case 7: return hasPattern(told % 1000, a);
                default: return false;
            }
        }

        private boolean turns(int word, int place) {
            if (!tried.hasPlace(word, place)) {
                return false;
            }
            tried.flip(word, place);
            learning.learnFrom(tried, ALL_WORDS);
            return true;
        }

        private boolean rules(int level, int rule, int h) {
            if (!isLevel(level) || !isRule(rule, h)) {
                return false;
            }
            tried.setRule(level, rule, h);
            learning.learnFrom(tried, ALL_WORDS);
            return true;
        }

        private boolean studies() {
            if (tried.learnt >= LEVELS) {
                return false;
            }
            tried.learnt++;
            learning.learnFrom(tried, ALL_WORDS);
            return true;
        }

        private boolean hasPattern(int figures, int gap) {
            int node = Figures.nodeOf(figures);
            return Figures.isPattern(node, gap) && learning.levelOf(node, gap) > 0;
        }
    }

    /** What is right if only some of the words are learnt from: shares, and words lost by chance. */
    private static final class Chances {
        final Learning learning;
        /** By the bits of the words learnt from: how many places of all words are right. */
        final int[] rights = new int[ALL_WORDS + 1];
        boolean valued;

        Chances(Learning trial) {
            learning = trial;
        }

        private void value(Stock stock) {
            if (valued) {
                return;
            }
            for (int mask = 0; mask < 1 << stock.words; mask++) {
                learning.learnFrom(stock, mask);
                rights[mask] = learning.rightPlaces(stock);
            }
            valued = true;
        }

        int shareOf(Stock stock, int word, boolean upper) {
            value(stock);
            int sum = 0;
            for (int mask = 0; mask < 1 << stock.words; mask++) {
                if ((mask >> word & 1) == 0) {
                    int ahead = Integer.bitCount(mask);
                    int orders = FACTORIAL[ahead] * FACTORIAL[stock.words - 1 - ahead];
                    sum += orders * (rights[mask | 1 << word] - rights[mask]);
                }
            }
            return leastTerms(sum, FACTORIAL[stock.words], upper);
        }

        int chanceOf(Stock stock, int least, int tenths, boolean upper) {
            value(stock);
            int sum = 0;
            for (int mask = 0; mask < 1 << stock.words; mask++) {
                if (rights[mask] >= least) {
                    int left = Integer.bitCount(mask);
                    sum += power(TENTHS - tenths, left) * power(tenths, stock.words - left);
                }
            }
            return leastTerms(sum, power(TENTHS, stock.words), upper);
        }

        private static int power(int of, int times) {
            int product = 1;
            for (int i = 0; i < times; i++) {
                product *= of;
            }
            return product;
        }

        private static int leastTerms(int above, int below, boolean upper) {
            int divisor = commonDivisor(Math.abs(above), below);
            if (divisor < 1) {
                return 0;
            }
            return (upper ? above : below) / divisor;
        }

        /** Euclid needs fewer than 50 steps for ints. */
        private static int commonDivisor(int one, int other) {
            int a = one;
            int b = other;
            for (int i = 0; i < 50 && b != 0; i++) {
                int left = a % b;
                a = b;
                b = left;
            }
            return a;
        }
    }
}
