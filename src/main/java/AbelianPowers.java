/**
 * Words that avoid repetitions of equivalent blocks: equal, abelian, additive and mixed powers, searches for
 * free words, morphisms, and the closure of templates of abelian squares under a morphism.
 *
 * All rows are made with the object and used again: no call makes an object.
 */
public final class AbelianPowers {
    public static final int BAD_ARGUMENT = -1;
    public static final int NONE = -2;
    public static final int FULL = -3;
    public static final int LIMIT = -4;
    public static final int NOT_FREE = -5;
    public static final int MISSING_IMAGE = -6;
    public static final int NOT_PROLONGABLE = -7;
    public static final int SINGULAR = -8;
    public static final int NULL_ARRAY = -11;
    public static final int INDEX_OUT_OF_RANGE = -13;
    public static final int NEGATIVE_SIZE = -14;
    public static final int SYNTAX_ERROR = -100;

    private static final int EQUAL = 0;
    private static final int ABELIAN = 1;
    private static final int ADDITIVE = 2;
    private static final int MIXED = 3;
    private static final int KINDS = 4;

    private static final int WORDS = 3;
    private static final int ARRAYS = 3;
    private static final int ENDS = 3;
    private static final int MAX_LETTERS = 4;
    private static final int WORD_ROOM = 40;
    private static final int IMAGE_ROOM = 4;
    private static final int INPUT_ROOM = 16;
    private static final int ARRAY_ROOM = 41;

    private static final int MAX_SEARCHED = 30;
    private static final int MAX_COUNTED = 8;
    private static final int TOO_LONG = 12;
    private static final int MAX_STEPS = 20000;
    /** Far above the turns of any search: at most two for each of 87380 words or 20000 steps. */
    private static final int MAX_TURNS = 1000000;

    private static final int MAX_TEMPLATES = 200;
    private static final int MAX_NUMBER = 9;
    private static final int EMPTY = -1;
    private static final int NO_FAULT = -1;

    private final Input input = new Input();
    private final Setting setting = new Setting();
    private final Setting snapshot = new Setting();
    private boolean snapshotSaved;
    private final Word scratch = new Word(WORD_ROOM);
    private final Trail trail = new Trail();
    private final Search search = new Search();
    private final Matrix matrix = new Matrix();
    private final Closure closure = new Closure();
    private final Row[] rows = new Row[ARRAYS];

    public AbelianPowers() {
        for (int i = 0; i < ARRAYS; i++) {
            rows[i] = new Row();
        }
    }

    // ---- the problem

    public int feed(int b) {
        if (b < 1 || b > 127) {
            return BAD_ARGUMENT;
        }
        if (input.size >= INPUT_ROOM) {
            return FULL;
        }
        input.put(b);
        return input.size;
    }

    public int parseProblem() {
        int kind = input.likeliestKind();
        int end = Input.kindText(kind).length();
        int fault = input.problemFault(kind);
        int exponent = input.digitAt(end);
        int letters = input.digitAt(end + 2);
        input.size = 0;
        if (fault != NO_FAULT) {
            return SYNTAX_ERROR - fault;
        }
        setting.kind = kind;
        setting.exponent = exponent;
        if (letters != setting.letters) {
            setting.startOver(letters);
        }
        return exponent;
    }

    public int problem(int what) {
        switch (what) {
            case 0:
                return setting.kind;
            case 1:
                return setting.exponent;
            case 2:
                return setting.letters;
            default:
                return BAD_ARGUMENT;
        }
    }

    public int setValue(int letter, int value) {
        if (!setting.hasLetter(letter) || value < -MAX_NUMBER || value > MAX_NUMBER) {
            return BAD_ARGUMENT;
        }
        int previous = setting.values[letter];
        setting.values[letter] = value;
        return previous + 10;
    }

    // ---- words

    public int append(int word, int letter) {
        if (!isWord(word) || !setting.hasLetter(letter)) {
            return BAD_ARGUMENT;
        }
        Word changed = setting.words[word];
        if (changed.size >= WORD_ROOM) {
            return FULL;
        }
        changed.put(letter);
        return changed.size;
    }

    public int clearWord(int word) {
        if (!isWord(word)) {
            return BAD_ARGUMENT;
        }
        int previous = setting.words[word].size;
        setting.words[word].size = 0;
        return previous;
    }

    public int length(int word) {
        return isWord(word) ? setting.words[word].size : BAD_ARGUMENT;
    }

    public int letter(int word, int i) {
        if (!isWord(word)) {
            return BAD_ARGUMENT;
        }
        Word read = setting.words[word];
        return i >= 0 && i < read.size ? read.letters[i] : NONE;
    }

    public int occurrences(int word, int start, int size, int letter) {
        if (!isWord(word) || !setting.hasLetter(letter) || !setting.words[word].hasBlock(start, size)) {
            return BAD_ARGUMENT;
        }
        return setting.words[word].count(letter, start, start + size);
    }

    public int equivalent(int word, int start, int other, int size) {
        if (!isWord(word)) {
            return BAD_ARGUMENT;
        }
        Word read = setting.words[word];
        if (!read.hasBlock(start, size) || !read.hasBlock(other, size)) {
            return BAD_ARGUMENT;
        }
        trail.begin(setting.kind, setting);
        trail.pushAll(read);
        return trail.sameBlocks(start, other, size) ? 1 : 0;
    }

    public int firstPower(int word) {
        if (!isWord(word)) {
            return BAD_ARGUMENT;
        }
        int block = pushUpToPower(setting.words[word]);
        if (block == 0) {
            return NONE;
        }
        return 100 * (trail.size - setting.exponent * block) + block;
    }

    public int powerCount(int word) {
        if (!isWord(word)) {
            return BAD_ARGUMENT;
        }
        Word read = setting.words[word];
        trail.begin(setting.kind, setting);
        int count = 0;
        for (int i = 0; i < read.size; i++) {
            trail.push(read.letters[i]);
            count += trail.powersAtEnd();
        }
        return count;
    }

    public int freePrefix(int word) {
        if (!isWord(word)) {
            return BAD_ARGUMENT;
        }
        int block = pushUpToPower(setting.words[word]);
        return block == 0 ? trail.size : trail.size - 1;
    }

    public int extensions(int word) {
        if (!isWord(word)) {
            return BAD_ARGUMENT;
        }
        if (pushUpToPower(setting.words[word]) != 0) {
            return NOT_FREE;
        }
        int set = 0;
        for (int x = 0; x < setting.letters; x++) {
            trail.push(x);
            if (trail.shortestPowerAtEnd() == 0) {
                set |= 1 << x;
            }
            trail.pop();
        }
        return set;
    }

    /** Pushes a word up to the end of its first power; returns the length of that power's blocks, 0 if it is free. */
    private int pushUpToPower(Word word) {
        trail.begin(setting.kind, setting);
        for (int i = 0; i < word.size; i++) {
            trail.push(word.letters[i]);
            int block = trail.shortestPowerAtEnd();
            if (block != 0) {
                return block;
            }
        }
        return 0;
    }

    // ---- searches

    public int smallestFree(int n, int word) {
        if (n < 1 || n > MAX_SEARCHED || !isWord(word)) {
            return BAD_ARGUMENT;
        }
        trail.begin(setting.kind, setting);
        int steps = search.seek(trail, n, setting.letters);
        if (steps > 0) {
            trail.copyTo(setting.words[word]);
        }
        return steps;
    }

    public int countFree(int n) {
        if (n < 0 || n > MAX_COUNTED) {
            return BAD_ARGUMENT;
        }
        trail.begin(setting.kind, setting);
        return Search.countWords(trail, n, setting.letters, false);
    }

    public int countNormal(int n) {
        if (n < 0 || n > MAX_COUNTED) {
            return BAD_ARGUMENT;
        }
        trail.begin(setting.kind, setting);
        return Search.countWords(trail, n, setting.letters, true);
    }

    public int longestFree() {
        trail.begin(setting.kind, setting);
        int steps = search.seek(trail, TOO_LONG, setting.letters);
        if (steps == LIMIT) {
            return LIMIT;
        }
        return steps > 0 ? NONE : search.deepest;
    }

    // ---- the morphism

    public int parseImage() {
        int fault = input.imageFault(setting.letters);
        int letter = input.letterAt(0, setting.letters);
        if (fault == NO_FAULT && setting.hasLetter(letter)) {
            input.copyImageTo(setting.images[letter]);
        }
        input.size = 0;
        return fault == NO_FAULT ? letter : SYNTAX_ERROR - fault;
    }

    public int imageLength(int letter) {
        return setting.hasLetter(letter) ? setting.images[letter].size : BAD_ARGUMENT;
    }

    public int apply(int word) {
        if (!isWord(word)) {
            return BAD_ARGUMENT;
        }
        Word changed = setting.words[word];
        int total = 0;
        for (int i = 0; i < changed.size; i++) {
            int part = setting.images[changed.letters[i]].size;
            if (part == 0) {
                return MISSING_IMAGE;
            }
            total += part;
        }
        if (total > WORD_ROOM) {
            return FULL;
        }
        scratch.size = 0;
        for (int i = 0; i < changed.size; i++) {
            scratch.putAll(setting.images[changed.letters[i]]);
        }
        changed.copyFrom(scratch);
        return changed.size;
    }

    public int iterate(int word, int letter) {
        if (!isWord(word) || !setting.hasLetter(letter)) {
            return BAD_ARGUMENT;
        }
        if (setting.lacksImage()) {
            return MISSING_IMAGE;
        }
        Word image = setting.images[letter];
        if (image.size < 2 || image.letters[0] != letter) {
            return NOT_PROLONGABLE;
        }
        scratch.copyFrom(image);
        // The first letter's image stands already; no image is empty, so the end stays ahead of the letter read.
        for (int i = 1; i < scratch.size && scratch.size < WORD_ROOM; i++) {
            scratch.putAll(setting.images[scratch.letters[i]]);
        }
        setting.words[word].copyFrom(scratch);
        return setting.words[word].size;
    }

    public long determinant() {
        if (setting.lacksImage()) {
            return Long.MIN_VALUE;
        }
        matrix.load(setting);
        return matrix.wholeMinor();
    }

    // ---- templates

    public int computeClosure() {
        if (setting.lacksImage()) {
            return MISSING_IMAGE;
        }
        matrix.load(setting);
        if (matrix.wholeMinor() == 0) {
            return SINGULAR;
        }
        return closure.build(setting, matrix);
    }

    public int template(int i, int what) {
        if (!closure.has(i)) {
            return NONE;
        }
        if (what < 0 || what >= ENDS + closure.letters) {
            return BAD_ARGUMENT;
        }
        Template asked = closure.read(i);
        return (what < ENDS ? asked.ends[what] : asked.numbers[what - ENDS]) + 10;
    }

    public int occurrence(int word, int i) {
        if (!isWord(word)) {
            return BAD_ARGUMENT;
        }
        if (!closure.has(i) || closure.letters != setting.letters) {
            return NONE;
        }
        trail.begin(ABELIAN, setting);
        trail.pushAll(setting.words[word]);
        return trail.firstMatch(closure.read(i));
    }

    // ---- arrays, snapshot

    public int newArray(int array, int size) {
        if (!isArray(array) || size > ARRAY_ROOM) {
            return BAD_ARGUMENT;
        }
        if (size < 0) {
            return NEGATIVE_SIZE;
        }
        rows[array].renew(size);
        return 1;
    }

    public int setElement(int array, int i, long value) {
        if (!isArray(array)) {
            return BAD_ARGUMENT;
        }
        Row row = rows[array];
        if (!row.present) {
            return NULL_ARRAY;
        }
        if (!row.has(i)) {
            return INDEX_OUT_OF_RANGE;
        }
        row.elements[i] = value;
        return 1;
    }

    public long element(int array, int i) {
        if (!isArray(array) || !rows[array].has(i)) {
            return Long.MIN_VALUE;
        }
        return rows[array].elements[i];
    }

    public int prefixSums(int array, int word) {
        if (!isArray(array) || !isWord(word)) {
            return BAD_ARGUMENT;
        }
        Row row = rows[array];
        Word read = setting.words[word];
        if (!row.present) {
            return NULL_ARRAY;
        }
        if (!row.has(read.size)) {
            return INDEX_OUT_OF_RANGE;
        }
        row.elements[0] = 0;
        for (int i = 0; i < read.size; i++) {
            row.elements[i + 1] = row.elements[i] + setting.values[read.letters[i]];
        }
        return read.size + 1;
    }

    public int saveSnapshot() {
        snapshot.copyFrom(setting);
        snapshotSaved = true;
        return setting.lettersOfWords();
    }

    public int restoreSnapshot() {
        if (!snapshotSaved) {
            return NONE;
        }
        setting.copyFrom(snapshot);
        return setting.lettersOfWords();
    }

    private static boolean isWord(int word) {
        return word >= 0 && word < WORDS;
    }

    private static boolean isArray(int array) {
        return array >= 0 && array < ARRAYS;
    }

    /** The bytes that were fed, and where they cease to be a problem or an image. */
    private static final class Input {
        final int[] bytes = new int[INPUT_ROOM];
        int size;

        void put(int b) {
            if (size < INPUT_ROOM) {
                bytes[size] = b;
                size++;
            }
        }

        /** The byte at a position; 0, which is never fed, where the input has ended. */
        int byteAt(int i) {
            return i >= 0 && i < size ? bytes[i] : 0;
        }

        /** The exponent or number of letters at a position, 0 if neither can stand there. */
        int digitAt(int i) {
            int b = byteAt(i);
            return b >= '2' && b <= '4' ? b - '0' : 0;
        }

        int letterAt(int i, int letters) {
            int letter = byteAt(i) - 'a';
            return letter >= 0 && letter < letters ? letter : EMPTY;
        }

        static String kindText(int kind) {
            switch (kind) {
                case EQUAL:
                    return "equal ";
                case ABELIAN:
                    return "abelian ";
                case ADDITIVE:
                    return "additive ";
                default:
                    return "mixed ";
            }
        }

        int matched(String text) {
            int n = 0;
            while (n < text.length() && byteAt(n) == text.charAt(n)) {
                n++;
            }
            return n;
        }

        /** The kind with whose text the input agrees for longest. */
        int likeliestKind() {
            int best = 0;
            for (int kind = 1; kind < KINDS; kind++) {
                if (matched(kindText(kind)) > matched(kindText(best))) {
                    best = kind;
                }
            }
            return best;
        }

        int problemFault(int kind) {
            String text = kindText(kind);
            int at = matched(text);
            if (at < text.length() || digitAt(at) == 0) {
                return at;
            }
            if (byteAt(at + 1) != ' ') {
                return at + 1;
            }
            if (digitAt(at + 2) == 0) {
                return at + 2;
            }
            return size > at + 3 ? at + 3 : NO_FAULT;
        }

        int imageFault(int letters) {
            if (letterAt(0, letters) == EMPTY) {
                return 0;
            }
            if (byteAt(1) != ':') {
                return 1;
            }
            int at = 2;
            while (at < 2 + IMAGE_ROOM && letterAt(at, letters) != EMPTY) {
                at++;
            }
            return at == 2 || at < size ? at : NO_FAULT;
        }

        /** Copies the letters behind the colon of an input that has no fault. */
        void copyImageTo(Word image) {
            image.size = 0;
            for (int i = 2; i < size; i++) {
                image.put(bytes[i] - 'a');
            }
        }
    }

    /** A word register, or an image, which is missing while it has no letters. */
    private static final class Word {
        final int[] letters;
        int size;

        Word(int room) {
            letters = new int[Math.max(room, 0)];
        }

        void put(int letter) {
            if (size < letters.length) {
                letters[size] = letter;
                size++;
            }
        }

        /** Puts as many letters of a word as there is room for. */
        void putAll(Word other) {
            for (int i = 0; i < other.size; i++) {
                put(other.letters[i]);
            }
        }

        void copyFrom(Word other) {
            size = 0;
            putAll(other);
        }

        boolean hasBlock(int start, int blockSize) {
            return start >= 0 && start <= size && blockSize >= 0 && blockSize <= size - start;
        }

        int count(int letter, int from, int to) {
            int count = 0;
            for (int i = Math.max(from, 0); i < to && i < size; i++) {
                if (letters[i] == letter) {
                    count++;
                }
            }
            return count;
        }
    }

    /** What a snapshot holds: the problem, the values, the words and the images. */
    private static final class Setting {
        int kind = ABELIAN;
        int exponent = 2;
        int letters;
        final int[] values = new int[MAX_LETTERS];
        final Word[] words = new Word[WORDS];
        final Word[] images = new Word[MAX_LETTERS];

        Setting() {
            for (int i = 0; i < WORDS; i++) {
                words[i] = new Word(WORD_ROOM);
            }
            for (int x = 0; x < MAX_LETTERS; x++) {
                images[x] = new Word(IMAGE_ROOM);
            }
            startOver(3);
        }

        void startOver(int newLetters) {
            letters = newLetters;
            for (int i = 0; i < WORDS; i++) {
                words[i].size = 0;
            }
            for (int x = 0; x < MAX_LETTERS; x++) {
                images[x].size = 0;
                values[x] = x;
            }
        }

        void copyFrom(Setting other) {
            kind = other.kind;
            exponent = other.exponent;
            letters = other.letters;
            for (int i = 0; i < WORDS; i++) {
                words[i].copyFrom(other.words[i]);
            }
            for (int x = 0; x < MAX_LETTERS; x++) {
                images[x].copyFrom(other.images[x]);
                values[x] = other.values[x];
            }
        }

        boolean hasLetter(int letter) {
            return letter >= 0 && letter < letters;
        }

        boolean lacksImage() {
            for (int x = 0; x < letters; x++) {
                if (images[x].size == 0) {
                    return true;
                }
            }
            return false;
        }

        int lettersOfWords() {
            int total = 0;
            for (int i = 0; i < WORDS; i++) {
                total += words[i].size;
            }
            return total;
        }
    }

    /**
     * A word that grows and shrinks at its end. Sums over its prefixes make blocks comparable without reading them:
     * a block's sum is the difference of two of them. A sum of letter counts holds each count in 16 bits of its own,
     * one of pair counts in 8, which no count outgrows, so that equal sums mean equal counts.
     */
    private static final class Trail {
        static final int COUNT_BITS = 16;
        static final int PAIR_BITS = 8;
        static final int PAIRS_IN_A_LONG = 8;

        final int[] letters = new int[WORD_ROOM + 1];
        /** For each prefix, how many letters there are up to its greatest. */
        final int[] tops = new int[WORD_ROOM + 2];
        final long[] sums = new long[WORD_ROOM + 2];
        final long[] lowPairs = new long[WORD_ROOM + 2];
        final long[] highPairs = new long[WORD_ROOM + 2];
        final long[] weights = new long[MAX_LETTERS];
        int size;
        int kind;
        int exponent;

        void begin(int newKind, Setting setting) {
            size = 0;
            kind = newKind;
            exponent = setting.exponent;
            for (int x = 0; x < MAX_LETTERS; x++) {
                weights[x] = kind == ADDITIVE ? setting.values[x] : 1L << (COUNT_BITS * x);
            }
        }

        void push(int letter) {
            if (size > WORD_ROOM || letter < 0 || letter >= MAX_LETTERS) {
                return;
            }
            letters[size] = letter;
            sums[size + 1] = sums[size] + weights[letter];
            tops[size + 1] = Math.max(tops[size], letter + 1);
            if (kind == MIXED) {
                sumPairs(letter);
            }
            size++;
        }

        private void sumPairs(int letter) {
            lowPairs[size + 1] = lowPairs[size];
            highPairs[size + 1] = highPairs[size];
            if (size == 0) {
                return;
            }
            int pair = MAX_LETTERS * letters[size - 1] + letter;
            if (pair < PAIRS_IN_A_LONG) {
                lowPairs[size + 1] += 1L << (PAIR_BITS * pair);
            } else {
                highPairs[size + 1] += 1L << (PAIR_BITS * (pair - PAIRS_IN_A_LONG));
            }
        }

        void pushAll(Word word) {
            for (int i = 0; i < word.size; i++) {
                push(word.letters[i]);
            }
        }

        /** Takes the last letter off and returns it. */
        int pop() {
            if (size == 0) {
                return EMPTY;
            }
            size--;
            return letters[size];
        }

        void copyTo(Word word) {
            word.size = 0;
            for (int i = 0; i < size; i++) {
                word.put(letters[i]);
            }
        }

        /** Whether two blocks, which must be inside the word, are equivalent. */
        boolean sameBlocks(int a, int b, int block) {
            if (kind == EQUAL) {
                return sameLetters(a, b, block);
            }
            if (sums[a + block] - sums[a] != sums[b + block] - sums[b]) {
                return false;
            }
            return kind != MIXED || block == 0 || letters[a] == letters[b] && samePairs(a, b, block);
        }

        private boolean sameLetters(int a, int b, int block) {
            for (int i = 0; i < block; i++) {
                if (letters[a + i] != letters[b + i]) {
                    return false;
                }
            }
            return true;
        }

        /** The pair before a block's first letter ends with that letter, so the block's pairs begin one prefix later. */
        private boolean samePairs(int a, int b, int block) {
            return lowPairs[a + block] - lowPairs[a + 1] == lowPairs[b + block] - lowPairs[b + 1]
                && highPairs[a + block] - highPairs[a + 1] == highPairs[b + block] - highPairs[b + 1];
        }

        private boolean isPowerAtEnd(int block) {
            int first = size - exponent * block;
            for (int i = 1; i < exponent; i++) {
                if (!sameBlocks(first, first + i * block, block)) {
                    return false;
                }
            }
            return true;
        }

        /** The length of the blocks of the shortest power that ends with the word, 0 if there is none. */
        int shortestPowerAtEnd() {
            for (int block = 1; block <= size && block * exponent <= size; block++) {
                if (isPowerAtEnd(block)) {
                    return block;
                }
            }
            return 0;
        }

        int powersAtEnd() {
            int count = 0;
            for (int block = 1; block <= size && block * exponent <= size; block++) {
                if (isPowerAtEnd(block)) {
                    count++;
                }
            }
            return count;
        }

        /** The first occurrence of a template, as the public method tells it; the sums must be those of counts. */
        int firstMatch(Template sought) {
            for (int start = 0; start < size; start++) {
                int match = hasEnd(sought.ends[0], start) ? matchAt(sought, start) : NONE;
                if (match != NONE) {
                    return match;
                }
            }
            return NONE;
        }

        private int matchAt(Template sought, int start) {
            int from1 = start + Template.width(sought.ends[0]);
            int longer = sought.lengthDifference();
            for (int size1 = Math.max(0, -longer); from1 + size1 <= size; size1++) {
                int to1 = from1 + size1;
                int from2 = to1 + Template.width(sought.ends[1]);
                int to2 = from2 + size1 + longer;
                if (hasEnd(sought.ends[1], to1) && hasEnd(sought.ends[2], to2)
                        && to2 + Template.width(sought.ends[2]) > start
                        && sums[to2] - sums[from2] - (sums[to1] - sums[from1]) == sumOf(sought)) {
                    return 10000 * start + 100 * size1 + size1 + longer;
                }
            }
            return NONE;
        }

        private boolean hasEnd(int end, int i) {
            return end == EMPTY ? i <= size : i < size && letters[i] == end;
        }

        private long sumOf(Template sought) {
            long sum = 0;
            for (int x = 0; x < MAX_LETTERS; x++) {
                sum += sought.numbers[x] * weights[x];
            }
            return sum;
        }
    }

    /** Depth-first searches for free words; the trail, which the caller has begun anew, is the present word. */
    private static final class Search {
        int deepest;

        /** The steps until the first free word of n letters is the trail; NONE if there is none; LIMIT. */
        int seek(Trail trail, int n, int letters) {
            int steps = 0;
            int next = 0;
            deepest = 0;
            for (int turn = 0; turn < MAX_TURNS; turn++) {
                if (next >= letters) {
                    if (trail.size == 0) {
                        return NONE;
                    }
                    next = trail.pop() + 1;
                    continue;
                }
                if (steps == MAX_STEPS) {
                    return LIMIT;
                }
                steps++;
                trail.push(next);
                if (trail.shortestPowerAtEnd() != 0) {
                    next = trail.pop() + 1;
                    continue;
                }
                deepest = Math.max(deepest, trail.size);
                if (trail.size == n) {
                    return steps;
                }
                next = 0;
            }
            return LIMIT;
        }

        /** The number of free words of n letters, or of those alone that bring new letters in increasing order. */
        static int countWords(Trail trail, int n, int letters, boolean normalOnly) {
            if (n == 0) {
                return 1;
            }
            int count = 0;
            int next = 0;
            for (int turn = 0; turn < MAX_TURNS; turn++) {
                int choices = normalOnly ? Math.min(letters, trail.tops[trail.size] + 1) : letters;
                if (next >= choices) {
                    if (trail.size == 0) {
                        return count;
                    }
                    next = trail.pop() + 1;
                    continue;
                }
                trail.push(next);
                boolean free = trail.shortestPowerAtEnd() == 0;
                if (free && trail.size < n) {
                    next = 0;
                    continue;
                }
                count += free ? 1 : 0;
                next = trail.pop() + 1;
            }
            return count;
        }
    }

    /** The matrix of the morphism; minors, of at most four rows, give its determinant and its adjugate. */
    private static final class Matrix {
        final int[] entries = new int[MAX_LETTERS * MAX_LETTERS];
        int size;

        void load(Setting setting) {
            size = setting.letters;
            for (int i = 0; i < size; i++) {
                for (int j = 0; j < size; j++) {
                    Word image = setting.images[j];
                    entries[MAX_LETTERS * i + j] = image.count(i, 0, image.size);
                }
            }
        }

        int wholeMinor() {
            return minor(entries, size, 0, size, allColumns());
        }

        /** The entry of the adjugate, which is the determinant times the inverse. */
        int adjugate(int row, int column) {
            int value = minor(entries, size, 0, column, allColumns() & ~(1 << row));
            return (row + column) % 2 == 0 ? value : -value;
        }

        private int allColumns() {
            return (1 << size) - 1;
        }

        /** The determinant of the rows from the given one on without the skipped one, and of a set of columns. */
        private static int minor(int[] entries, int size, int row, int skipped, int columns) {
            if (row >= size || row >= MAX_LETTERS) {
                return 1;
            }
            if (row == skipped) {
                return minor(entries, size, row + 1, skipped, columns);
            }
            int sum = 0;
            int sign = 1;
            for (int j = 0; j < size; j++) {
                if ((columns >> j & 1) != 0) {
                    int entry = entries[MAX_LETTERS * row + j];
                    if (entry != 0) {
                        sum += sign * entry * minor(entries, size, row + 1, skipped, columns & ~(1 << j));
                    }
                    sign = -sign;
                }
            }
            return sum;
        }
    }

    /** A template, which is kept as a key: keys have the order of templates. */
    private static final class Template {
        static final int END_CHOICES = MAX_LETTERS + 1;
        static final int NUMBER_CHOICES = 2 * MAX_NUMBER + 1;

        final int[] ends = new int[ENDS];
        /** Those behind the last letter of the alphabet are 0. */
        final int[] numbers = new int[MAX_LETTERS];

        static int keyOfEnds(int end0, int end1, int end2) {
            return ((end0 + 1) * END_CHOICES + end1 + 1) * END_CHOICES + end2 + 1;
        }

        static int keyWithNumber(int key, int number) {
            return key * NUMBER_CHOICES + number + MAX_NUMBER;
        }

        static int squareKey(int letters) {
            int key = keyOfEnds(EMPTY, EMPTY, EMPTY);
            for (int x = 0; x < letters; x++) {
                key = keyWithNumber(key, 0);
            }
            return key;
        }

        void readKey(int key, int letters) {
            int rest = key;
            for (int x = MAX_LETTERS - 1; x >= 0; x--) {
                numbers[x] = 0;
                if (x < letters) {
                    numbers[x] = rest % NUMBER_CHOICES - MAX_NUMBER;
                    rest /= NUMBER_CHOICES;
                }
            }
            for (int i = ENDS - 1; i >= 0; i--) {
                ends[i] = rest % END_CHOICES - 1;
                rest /= END_CHOICES;
            }
        }

        static int width(int end) {
            return end == EMPTY ? 0 : 1;
        }

        /** How much longer X2 is than X1. */
        int lengthDifference() {
            int sum = 0;
            for (int x = 0; x < MAX_LETTERS; x++) {
                sum += numbers[x];
            }
            return sum;
        }
    }

    /**
     * The ways in which one end of a template can come from an end of a parent: the parent's end, and what the
     * split of its image adds to the adjugate times the template's difference.
     */
    private static final class Splits {
        /** An empty end comes from the empty end, or from five splits of each of four images. */
        static final int MAX_SPLITS = 1 + MAX_LETTERS * (IMAGE_ROOM + 1);

        final int position;
        final int[] ends = new int[MAX_SPLITS];
        final int[] gains = new int[MAX_SPLITS * MAX_LETTERS];
        int size;

        Splits(int position) {
            this.position = position;
        }

        void find(int end, Setting setting, int[] adjugate) {
            size = 0;
            if (end == EMPTY) {
                put(EMPTY);
            }
            for (int x = 0; x < setting.letters; x++) {
                Word image = setting.images[x];
                for (int cut = 0; cut + Template.width(end) <= image.size; cut++) {
                    if (end == EMPTY || image.letters[cut] == end) {
                        put(x);
                        gain(image, 0, cut, prefixSign(), adjugate);
                        gain(image, cut + Template.width(end), image.size, suffixSign(), adjugate);
                    }
                }
            }
        }

        /** p0 has no part in the difference, p1 is added, p2 subtracted. */
        private int prefixSign() {
            return position == 0 ? 0 : position == 1 ? 1 : -1;
        }

        /** s0 is added, s1 subtracted, s2 has no part in the difference. */
        private int suffixSign() {
            return position == 0 ? 1 : position == 1 ? -1 : 0;
        }

        private void put(int end) {
            if (size < MAX_SPLITS) {
                ends[size] = end;
                for (int y = 0; y < MAX_LETTERS; y++) {
                    gains[MAX_LETTERS * size + y] = 0;
                }
                size++;
            }
        }

        /** Counts a part of an image for the split that was put last. */
        private void gain(Word image, int from, int to, int sign, int[] adjugate) {
            for (int i = from; i < to && sign != 0; i++) {
                for (int y = 0; y < MAX_LETTERS; y++) {
                    gains[MAX_LETTERS * (size - 1) + y] += sign * adjugate[MAX_LETTERS * y + image.letters[i]];
                }
            }
        }
    }

    /** The remembered closure, and the one that is being built. */
    private static final class Closure {
        final int[] remembered = new int[MAX_TEMPLATES];
        int size;
        int letters;

        /** The keys found so far, in order and as they came. */
        private final int[] ordered = new int[MAX_TEMPLATES];
        private final int[] found = new int[MAX_TEMPLATES];
        private int foundSize;

        private final Template current = new Template();
        private final int[] adjugate = new int[MAX_LETTERS * MAX_LETTERS];
        private int divisor;
        private int builtLetters;
        /** The adjugate times the difference of the template whose parents are sought. */
        private final int[] base = new int[MAX_LETTERS];
        private final Splits splits0 = new Splits(0);
        private final Splits splits1 = new Splits(1);
        private final Splits splits2 = new Splits(2);

        boolean has(int i) {
            return i >= 0 && i < size;
        }

        /** The template of a number that there is. */
        Template read(int i) {
            current.readKey(remembered[i], letters);
            return current;
        }

        /** Returns the number of templates, or LIMIT. */
        int build(Setting setting, Matrix matrix) {
            loadInverse(matrix);
            foundSize = 0;
            admit(Template.squareKey(builtLetters));
            for (int i = 0; i < foundSize && i < MAX_TEMPLATES; i++) {
                current.readKey(found[i], builtLetters);
                if (!admitParents(setting)) {
                    return LIMIT;
                }
            }
            remember();
            return size;
        }

        private void loadInverse(Matrix matrix) {
            builtLetters = matrix.size;
            divisor = matrix.wholeMinor();
            for (int y = 0; y < MAX_LETTERS; y++) {
                for (int x = 0; x < MAX_LETTERS; x++) {
                    boolean inside = x < builtLetters && y < builtLetters;
                    adjugate[MAX_LETTERS * y + x] = inside ? matrix.adjugate(y, x) : 0;
                }
            }
        }

        private void remember() {
            size = foundSize;
            letters = builtLetters;
            for (int i = 0; i < size; i++) {
                remembered[i] = ordered[i];
            }
        }

        /** Returns false if there are too many templates. */
        private boolean admitParents(Setting setting) {
            loadBase();
            splits0.find(current.ends[0], setting, adjugate);
            splits1.find(current.ends[1], setting, adjugate);
            splits2.find(current.ends[2], setting, adjugate);
            for (int i = 0; i < splits0.size; i++) {
                for (int j = 0; j < splits1.size; j++) {
                    for (int k = 0; k < splits2.size; k++) {
                        int key = parentKey(i, j, k);
                        if (key >= 0 && !admit(key)) {
                            return false;
                        }
                    }
                }
            }
            return true;
        }

        private void loadBase() {
            for (int y = 0; y < MAX_LETTERS; y++) {
                base[y] = 0;
                for (int x = 0; x < MAX_LETTERS; x++) {
                    base[y] += adjugate[MAX_LETTERS * y + x] * current.numbers[x];
                }
            }
        }

        /** The key of the parent that three splits give, negative if its numbers are not whole or out of range. */
        private int parentKey(int i, int j, int k) {
            if (divisor == 0) {
                return -1;
            }
            int key = Template.keyOfEnds(splits0.ends[i], splits1.ends[j], splits2.ends[k]);
            for (int y = 0; y < builtLetters; y++) {
                int sum = base[y] + splits0.gains[MAX_LETTERS * i + y] + splits1.gains[MAX_LETTERS * j + y]
                    + splits2.gains[MAX_LETTERS * k + y];
                int number = sum / divisor;
                if (number * divisor != sum || number < -MAX_NUMBER || number > MAX_NUMBER) {
                    return -1;
                }
                key = Template.keyWithNumber(key, number);
            }
            return key;
        }

        /** Takes a key in unless it is there; returns false if there is no room for it. */
        private boolean admit(int key) {
            int place = placeOf(key);
            if (place < foundSize && ordered[place] == key) {
                return true;
            }
            if (foundSize >= MAX_TEMPLATES) {
                return false;
            }
            for (int i = foundSize; i > place; i--) {
                ordered[i] = ordered[i - 1];
            }
            ordered[place] = key;
            found[foundSize] = key;
            foundSize++;
            return true;
        }

        /** How many of the keys found are smaller. */
        private int placeOf(int key) {
            int low = 0;
            int high = foundSize;
            for (int turn = 0; turn < MAX_TEMPLATES && low < high; turn++) {
                int middle = (low + high) / 2;
                if (ordered[middle] < key) {
                    low = middle + 1;
                } else {
                    high = middle;
                }
            }
            return low;
        }
    }

    /** One of the three arrays of longs. */
    private static final class Row {
        final long[] elements = new long[ARRAY_ROOM];
        boolean present;
        int size;

        void renew(int newSize) {
            present = true;
            size = Math.min(newSize, ARRAY_ROOM);
            for (int i = 0; i < ARRAY_ROOM; i++) {
                elements[i] = 0;
            }
        }

        boolean has(int i) {
            return present && i >= 0 && i < size;
        }
    }
}
