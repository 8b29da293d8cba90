/**
 * Answers how often and where letters stand in a list, by seven ways of packing
 * the list into bits, which all answer the same.
 *
 * The list itself is kept letter by letter; after each change all seven packings
 * are made anew from it, so that none can lag behind. An engine is asked for a
 * letter or a rank only, and never looks at the plain list; what else it answers
 * is put together from its ranks.
 */
public final class SuccinctSuite {
    public static final int BAD = -1;
    public static final int FULL = -2;

    private static final int CAPACITY = 200;
    private static final int LETTERS = 8;
    private static final int LETTER_BITS = 3;

    private static final int ENGINES = 7;
    private static final int PLAIN = 0;
    private static final int TREE = 1;
    private static final int MATRIX = 2;
    private static final int ROWS = 3;
    private static final int RUNS = 4;
    private static final int CODE = 5;
    private static final int SPARSE = 6;

    /** A row has a bit for each place: 256 bits, 4 words. */
    private static final int ROW_BITS = 256;
    private static final int ROW_WORDS = 4;
    private static final int LEVELS_WORDS = 12;
    private static final int LETTER_ROWS_WORDS = 32;

    /** A word holds 21 fields of three bits, so no field lies across two words. */
    private static final int TRIPLES = 21;
    private static final int TRIPLES_WORDS = 10;
    private static final long LOWEST_OF_TRIPLES = 0x1249249249249249L;

    /** A run is 11 bits, the letter above 8 bits of length, so 5 fit in a word. */
    private static final int RUN_BITS = 11;
    private static final int RUNS_IN_WORD = 5;
    private static final int RUNS_WORDS = 40;
    private static final int RUN_LENGTH_BITS = 8;
    private static final int RUN_LENGTH_MASK = 255;

    /** The best code needs no more than 3 bits a letter, 600 in all. */
    private static final int STREAM_WORDS = 10;
    /** A sample every 16 places keeps the reading of the stream short. */
    private static final int SAMPLE_SHIFT = 4;
    private static final int SAMPLES = 13;
    private static final int SAMPLE_RANKS = 104;

    /** 200 ones and at most 256 zeros between them. */
    private static final int SPARSE_WORDS = 8;
    private static final int BUCKET = 8;

    private final byte[] letters = new byte[CAPACITY];
    private int length;

    private final long[] plainWords = new long[TRIPLES_WORDS];

    private final long[] treeBits = new long[LEVELS_WORDS];

    private final long[] matrixBits = new long[LEVELS_WORDS];
    private final int[] matrixZeros = new int[LETTER_BITS];

    private final long[] letterRows = new long[LETTER_ROWS_WORDS];

    private final long[] runWords = new long[RUNS_WORDS];
    private int runCount;

    private final int[] letterCounts = new int[LETTERS];
    private final int[] groupWeights = new int[LETTERS];
    private final int[] groupOf = new int[LETTERS];
    private final int[] codeLengths = new int[LETTERS];
    private final int[] codes = new int[LETTERS];
    private final int[] codesOfLength = new int[LETTERS];
    private final int[] lettersByCode = new int[LETTERS];
    private final long[] stream = new long[STREAM_WORDS];
    private int streamLength;
    private final int[] sampleStarts = new int[SAMPLES];
    private final int[] sampleRanks = new int[SAMPLE_RANKS];

    private final long[] sparseHigh = new long[SPARSE_WORDS];
    private final long[] sparseLow = new long[TRIPLES_WORDS];

    public SuccinctSuite() {
        length = 0;
    }

    // ---- the list -------------------------------------------------------

    public int append(int letter, int n) {
        if (!isLetter(letter) || n < 1 || n > CAPACITY) {
            return BAD;
        }
        if (n > CAPACITY - length) {
            return FULL;
        }
        for (int step = 0; step < n; step++) {
            letters[length + step] = (byte) letter;
        }
        length += n;
        packAll();
        return length;
    }

    public int again(int back, int n) {
        if (back < 1 || back > length || n < 1 || n > CAPACITY) {
            return BAD;
        }
        if (n > CAPACITY - length) {
            return FULL;
        }
        // One by one from the left: n may exceed back, and then new letters are repeated too.
        for (int step = 0; step < n; step++) {
            letters[length + step] = letters[length + step - back];
        }
        length += n;
        packAll();
        return length;
    }

    public int change(int i, int letter) {
        if (!isPlace(i) || !isLetter(letter)) {
            return BAD;
        }
        int before = letters[i];
        letters[i] = (byte) letter;
        packAll();
        return before;
    }

    public int cut(int n) {
        if (n < 0 || n > CAPACITY) {
            return BAD;
        }
        length = n < length ? length - n : 0;
        packAll();
        return length;
    }

    // ---- questions to an engine -----------------------------------------

    public int at(int engine, int i) {
        if (!isEngine(engine) || !isPlace(i)) {
            return BAD;
        }
        return letterBy(engine, i);
    }

    public int rank(int engine, int letter, int i) {
        if (!isEngine(engine) || !isLetter(letter) || i < 0 || i > length) {
            return BAD;
        }
        return rankBy(engine, letter, i);
    }

    public int select(int engine, int letter, int k) {
        if (!isEngine(engine) || !isLetter(letter) || k < 0) {
            return BAD;
        }
        if (k >= rankBy(engine, letter, length)) {
            return BAD;
        }
        // The greatest place with no more than k before it is the one asked for.
        int place = 0;
        for (int leap = ROW_BITS >> 1; leap > 0; leap >>= 1) {
            int further = place + leap;
            if (further <= length && rankBy(engine, letter, further) <= k) {
                place = further;
            }
        }
        return place;
    }

    public int below(int engine, int i, int j, int letter) {
        if (!isEngine(engine) || !isRange(i, j) || letter < 0 || letter > LETTERS) {
            return BAD;
        }
        int count = 0;
        for (int less = 0; less < letter; less++) {
            count += rankBy(engine, less, j) - rankBy(engine, less, i);
        }
        return count;
    }

    public int ordered(int engine, int i, int j, int k) {
        if (!isEngine(engine) || !isRange(i, j) || k < 0 || k >= j - i) {
            return BAD;
        }
        int left = k;
        for (int letter = 0; letter < LETTERS; letter++) {
            int count = rankBy(engine, letter, j) - rankBy(engine, letter, i);
            if (left < count) {
                return letter;
            }
            left -= count;
        }
        return BAD;
    }

    public int most(int engine, int i, int j) {
        if (!isEngine(engine) || !isRange(i, j) || i == j) {
            return BAD;
        }
        int best = BAD;
        int bestCount = 0;
        for (int letter = 0; letter < LETTERS; letter++) {
            int count = rankBy(engine, letter, j) - rankBy(engine, letter, i);
            if (count > bestCount) {
                best = letter;
                bestCount = count;
            }
        }
        return best;
    }

    public boolean agree(int engine, int other) {
        if (!isEngine(engine) || !isEngine(other)) {
            return false;
        }
        for (int place = 0; place < length; place++) {
            if (letterBy(engine, place) != letterBy(other, place)) {
                return false;
            }
        }
        for (int letter = 0; letter < LETTERS; letter++) {
            for (int place = 0; place <= length; place++) {
                if (rankBy(engine, letter, place) != rankBy(other, letter, place)) {
                    return false;
                }
            }
        }
        return true;
    }

    // ---- questions to the list ------------------------------------------

    public int different(int i, int j) {
        if (!isRange(i, j)) {
            return BAD;
        }
        int seen = 0;
        for (int place = i; place < j; place++) {
            seen |= 1 << letters[place];
        }
        return onesIn(seen);
    }

    public int next(int letter, int i) {
        if (!isLetter(letter)) {
            return BAD;
        }
        for (int place = i < 0 ? 0 : i; place < length; place++) {
            if (letters[place] == letter) {
                return place;
            }
        }
        return BAD;
    }

    public int runs() {
        return runCount;
    }

    public int bits() {
        // The stream of the code engine is such a writing, with the best words there are.
        return streamLength;
    }

    // ---- what is in range -----------------------------------------------

    private static boolean isEngine(int engine) {
        return engine >= 0 && engine < ENGINES;
    }

    private static boolean isLetter(int letter) {
        return letter >= 0 && letter < LETTERS;
    }

    private boolean isPlace(int i) {
        return i >= 0 && i < length;
    }

    private boolean isRange(int i, int j) {
        return i >= 0 && i <= j && j <= length;
    }

    // ---- all engines ----------------------------------------------------

    private void packAll() {
        packPlain();
        packTree();
        packMatrix();
        packRows();
        packRuns();
        packCode();
        packSparse();
    }

    private int letterBy(int engine, int i) {
        switch (engine) {
            case PLAIN:
                return tripleAt(plainWords, i);
            case TREE:
                return treeLetter(i);
            case MATRIX:
                return matrixLetter(i);
            case ROWS:
                return rowsLetter(i);
            case RUNS:
                return runsLetter(i);
            case CODE:
                return codeLetter(i);
            case SPARSE:
                return sparseLetter(i);
            default:
                return BAD;
        }
    }

    private int rankBy(int engine, int letter, int i) {
        switch (engine) {
            case PLAIN:
                return plainRank(letter, i);
            case TREE:
                return treeRank(letter, i);
            case MATRIX:
                return matrixRank(letter, i);
            case ROWS:
                return onesBefore(letterRows, letter * ROW_WORDS, i);
            case RUNS:
                return runsRank(letter, i);
            case CODE:
                return codeRank(letter, i);
            case SPARSE:
                return sparseBelow(letter * ROW_BITS + i) - sparseBelow(letter * ROW_BITS);
            default:
                return BAD;
        }
    }

    // ---- engine 0, plain: three bits for each letter, one after the other ----

    private void packPlain() {
        clear(plainWords);
        for (int place = 0; place < length; place++) {
            putTriple(plainWords, place, letters[place]);
        }
    }

    private int plainRank(int letter, int i) {
        int count = 0;
        for (int word = 0; word * TRIPLES < i; word++) {
            long differs = plainWords[word] ^ (letter * LOWEST_OF_TRIPLES);
            // A field's lowest bit stays set where none of its three bits differs.
            long same = ~(differs | differs >>> 1 | differs >>> 2) & LOWEST_OF_TRIPLES;
            int fields = i - word * TRIPLES;
            if (fields < TRIPLES) {
                same &= (1L << (fields * LETTER_BITS)) - 1;
            }
            count += onesIn(same);
        }
        return count;
    }

    // ---- engine 1, wavelet tree: a row for each bit of a letter, the places of
    // ---- each row sorted by the higher bits

    private void packTree() {
        clear(treeBits);
        for (int level = 0; level < LETTER_BITS; level++) {
            int slot = level * ROW_BITS;
            for (int node = 0; node < 1 << level; node++) {
                slot = fillNode(treeBits, slot, level, node);
            }
        }
    }

    /** Writes the next bit of the letters that begin with the bits of prefix; answers the slot after. */
    private int fillNode(long[] row, int slot, int level, int prefix) {
        int free = slot;
        for (int place = 0; place < length; place++) {
            if (letters[place] >> (LETTER_BITS - level) == prefix) {
                if (letterBit(letters[place], level) == 1) {
                    setBit(row, free);
                }
                free++;
            }
        }
        return free;
    }

    private int treeLetter(int i) {
        int letter = 0;
        int start = 0;
        int end = length;
        int place = i;
        for (int level = 0; level < LETTER_BITS; level++) {
            int row = level * ROW_WORDS;
            int bit = bitAt(treeBits, level * ROW_BITS + start + place);
            int onesToStart = onesBefore(treeBits, row, start);
            int ones = onesBefore(treeBits, row, start + place) - onesToStart;
            int middle = end - (onesBefore(treeBits, row, end) - onesToStart);
            if (bit == 1) {
                start = middle;
                place = ones;
            } else {
                end = middle;
                place -= ones;
            }
            letter = letter * 2 + bit;
        }
        return letter;
    }

    private int treeRank(int letter, int i) {
        int start = 0;
        int end = length;
        int count = i;
        for (int level = 0; level < LETTER_BITS; level++) {
            int row = level * ROW_WORDS;
            int onesToStart = onesBefore(treeBits, row, start);
            int ones = onesBefore(treeBits, row, start + count) - onesToStart;
            int middle = end - (onesBefore(treeBits, row, end) - onesToStart);
            if (letterBit(letter, level) == 1) {
                start = middle;
                count = ones;
            } else {
                end = middle;
                count -= ones;
            }
        }
        return count;
    }

    // ---- engine 2, wavelet matrix: as the tree, but each row has first all places
    // ---- whose bit in the row above is 0, then all others

    private void packMatrix() {
        clear(matrixBits);
        for (int level = 0; level < LETTER_BITS; level++) {
            int slot = level * ROW_BITS;
            for (int group = 0; group < 1 << level; group++) {
                // The bit of the row just above orders first, so a prefix counts from its last bit.
                int prefix = turned(group, level);
                slot = fillNode(matrixBits, slot, level, prefix);
            }
            matrixZeros[level] = length - onesBefore(matrixBits, level * ROW_WORDS, length);
        }
    }

    private static int turned(int number, int width) {
        int result = 0;
        for (int bit = 0; bit < width; bit++) {
            result = result * 2 + (number >> bit & 1);
        }
        return result;
    }

    private int matrixLetter(int i) {
        int letter = 0;
        int place = i;
        for (int level = 0; level < LETTER_BITS; level++) {
            int bit = bitAt(matrixBits, level * ROW_BITS + place);
            int ones = onesBefore(matrixBits, level * ROW_WORDS, place);
            place = bit == 1 ? matrixZeros[level] + ones : place - ones;
            letter = letter * 2 + bit;
        }
        return letter;
    }

    private int matrixRank(int letter, int i) {
        int start = 0;
        int end = i;
        for (int level = 0; level < LETTER_BITS; level++) {
            int onesToStart = onesBefore(matrixBits, level * ROW_WORDS, start);
            int onesToEnd = onesBefore(matrixBits, level * ROW_WORDS, end);
            if (letterBit(letter, level) == 1) {
                start = matrixZeros[level] + onesToStart;
                end = matrixZeros[level] + onesToEnd;
            } else {
                start -= onesToStart;
                end -= onesToEnd;
            }
        }
        return end - start;
    }

    // ---- engine 3, rows: for each letter a row with a one where it stands ----

    private void packRows() {
        clear(letterRows);
        for (int place = 0; place < length; place++) {
            setBit(letterRows, letters[place] * ROW_BITS + place);
        }
    }

    private int rowsLetter(int i) {
        for (int letter = 0; letter < LETTERS; letter++) {
            if (bitAt(letterRows, letter * ROW_BITS + i) == 1) {
                return letter;
            }
        }
        return BAD;
    }

    // ---- engine 4, runs: each run of equal letters as one letter and a length ----

    private void packRuns() {
        clear(runWords);
        runCount = 0;
        int start = 0;
        for (int place = 1; place <= length; place++) {
            if (place == length || letters[place] != letters[start]) {
                putRun(letters[start], place - start);
                start = place;
            }
        }
    }

    private void putRun(int letter, int size) {
        long run = (long) letter << RUN_LENGTH_BITS | size;
        runWords[runCount / RUNS_IN_WORD] |= run << (runCount % RUNS_IN_WORD * RUN_BITS);
        runCount++;
    }

    private int runLetterAt(int number) {
        int shift = number % RUNS_IN_WORD * RUN_BITS + RUN_LENGTH_BITS;
        return (int) (runWords[number / RUNS_IN_WORD] >>> shift) & (LETTERS - 1);
    }

    private int runLengthAt(int number) {
        int shift = number % RUNS_IN_WORD * RUN_BITS;
        return (int) (runWords[number / RUNS_IN_WORD] >>> shift) & RUN_LENGTH_MASK;
    }

    private int runsLetter(int i) {
        int end = 0;
        for (int number = 0; number < runCount; number++) {
            end += runLengthAt(number);
            if (i < end) {
                return runLetterAt(number);
            }
        }
        return BAD;
    }

    private int runsRank(int letter, int i) {
        int count = 0;
        int start = 0;
        for (int number = 0; number < runCount && start < i; number++) {
            int size = runLengthAt(number);
            if (runLetterAt(number) == letter) {
                int reach = i - start;
                count += size < reach ? size : reach;
            }
            start += size;
        }
        return count;
    }

    // ---- engine 5, code: each letter by its word of the best prefix code ----

    private void packCode() {
        countLetters();
        measureCodes();
        assignCodes();
        writeStream();
    }

    private void countLetters() {
        for (int letter = 0; letter < LETTERS; letter++) {
            letterCounts[letter] = 0;
        }
        for (int place = 0; place < length; place++) {
            letterCounts[letters[place]]++;
        }
    }

    /** Huffman's way: the two lightest groups join until one is left, each time one bit longer. */
    private void measureCodes() {
        for (int letter = 0; letter < LETTERS; letter++) {
            codeLengths[letter] = 0;
            groupOf[letter] = letter;
            groupWeights[letter] = letterCounts[letter];
        }
        for (int join = 1; join < LETTERS; join++) {
            int first = lightestGroup(BAD);
            int second = lightestGroup(first);
            if (second == BAD) {
                break;
            }
            joinGroups(first, second);
        }
        for (int letter = 0; letter < LETTERS; letter++) {
            // The only letter of a list was never joined, and yet its word needs a bit.
            if (letterCounts[letter] > 0 && codeLengths[letter] == 0) {
                codeLengths[letter] = 1;
            }
        }
    }

    private int lightestGroup(int except) {
        int lightest = BAD;
        for (int group = 0; group < LETTERS; group++) {
            if (group == except || groupWeights[group] == 0) {
                continue;
            }
            if (lightest == BAD || groupWeights[group] < groupWeights[lightest]) {
                lightest = group;
            }
        }
        return lightest;
    }

    private void joinGroups(int first, int second) {
        for (int letter = 0; letter < LETTERS; letter++) {
            if (groupOf[letter] == first || groupOf[letter] == second) {
                groupOf[letter] = first;
                codeLengths[letter]++;
            }
        }
        groupWeights[first] += groupWeights[second];
        groupWeights[second] = 0;
    }

    /** Words of one length are numbers in a row, so that they can be read without a tree. */
    private void assignCodes() {
        int code = 0;
        int index = 0;
        for (int size = 1; size < LETTERS; size++) {
            codesOfLength[size] = 0;
            for (int letter = 0; letter < LETTERS; letter++) {
                if (codeLengths[letter] == size) {
                    codes[letter] = code;
                    lettersByCode[index] = letter;
                    codesOfLength[size]++;
                    code++;
                    index++;
                }
            }
            code *= 2;
        }
    }

    private void writeStream() {
        clear(stream);
        streamLength = 0;
        for (int letter = 0; letter < LETTERS; letter++) {
            letterCounts[letter] = 0;
        }
        // Up to the length itself, as a rank may be asked there.
        for (int place = 0; place <= length; place++) {
            if ((place >> SAMPLE_SHIFT) << SAMPLE_SHIFT == place) {
                takeSample(place >> SAMPLE_SHIFT);
            }
            if (place < length) {
                writeLetter(letters[place]);
            }
        }
    }

    private void takeSample(int sample) {
        sampleStarts[sample] = streamLength;
        for (int letter = 0; letter < LETTERS; letter++) {
            sampleRanks[sample * LETTERS + letter] = letterCounts[letter];
        }
    }

    private void writeLetter(int letter) {
        for (int bit = codeLengths[letter] - 1; bit >= 0; bit--) {
            if ((codes[letter] >> bit & 1) == 1) {
                setBit(stream, streamLength);
            }
            streamLength++;
        }
        letterCounts[letter]++;
    }

    private int readLetter(int start) {
        int code = 0;
        int firstCode = 0;
        int index = 0;
        for (int size = 1; size < LETTERS; size++) {
            code = code * 2 + bitAt(stream, start + size - 1);
            int number = code - firstCode;
            if (number < codesOfLength[size]) {
                return lettersByCode[index + number];
            }
            index += codesOfLength[size];
            firstCode = (firstCode + codesOfLength[size]) * 2;
        }
        return 0;
    }

    private int codeLetter(int i) {
        int sample = i >> SAMPLE_SHIFT;
        int start = sampleStarts[sample];
        for (int place = sample << SAMPLE_SHIFT; place < i; place++) {
            int passed = readLetter(start);
            start += codeLengths[passed];
        }
        return readLetter(start);
    }

    private int codeRank(int letter, int i) {
        int sample = i >> SAMPLE_SHIFT;
        int start = sampleStarts[sample];
        int count = sampleRanks[sample * LETTERS + letter];
        for (int place = sample << SAMPLE_SHIFT; place < i; place++) {
            int passed = readLetter(start);
            start += codeLengths[passed];
            if (passed == letter) {
                count++;
            }
        }
        return count;
    }

    // ---- engine 6, sparse: the numbers letter * 256 + place, rising, each split as
    // ---- Elias and Fano do: low three bits as they are, the rest as ones after zeros

    private void packSparse() {
        clear(sparseHigh);
        clear(sparseLow);
        int index = 0;
        for (int letter = 0; letter < LETTERS; letter++) {
            for (int place = 0; place < length; place++) {
                if (letters[place] == letter) {
                    int number = letter * ROW_BITS + place;
                    setBit(sparseHigh, number / BUCKET + index);
                    putTriple(sparseLow, index, number % BUCKET);
                    index++;
                }
            }
        }
    }

    private int sparseLetter(int i) {
        for (int letter = 0; letter < LETTERS; letter++) {
            int number = letter * ROW_BITS + i;
            if (sparseBelow(number) < sparseBelow(number + 1)) {
                return letter;
            }
        }
        return BAD;
    }

    /** How many of the kept numbers are less than a number. */
    private int sparseBelow(int number) {
        int bucket = number / BUCKET;
        int slot = bucket == 0 ? 0 : zeroPlace(sparseHigh, bucket - 1) + 1;
        // As many zeros as buckets lie before the slot, and all other bits are numbers.
        int index = slot - bucket;
        for (int step = 0; step < BUCKET; step++) {
            if (bitAt(sparseHigh, slot + step) == 0 || tripleAt(sparseLow, index) >= number % BUCKET) {
                break;
            }
            index++;
        }
        return index;
    }

    private static int zeroPlace(long[] row, int number) {
        int left = number;
        for (int word = 0; word < row.length; word++) {
            int zeros = 64 - onesIn(row[word]);
            if (left < zeros) {
                return word * 64 + zeroInWord(row[word], left);
            }
            left -= zeros;
        }
        return 0;
    }

    private static int zeroInWord(long word, int number) {
        int left = number;
        for (int bit = 0; bit < 64; bit++) {
            if ((word >>> bit & 1) == 0) {
                if (left == 0) {
                    return bit;
                }
                left--;
            }
        }
        return 0;
    }

    // ---- bits and fields ------------------------------------------------

    private static void clear(long[] words) {
        for (int word = 0; word < words.length; word++) {
            words[word] = 0;
        }
    }

    private static void setBit(long[] words, int place) {
        words[place >> 6] |= 1L << (place & 63);
    }

    private static int bitAt(long[] words, int place) {
        return (int) (words[place >> 6] >>> (place & 63)) & 1;
    }

    private static int letterBit(int letter, int level) {
        return letter >> (LETTER_BITS - 1 - level) & 1;
    }

    /** How many of the first bits of the row that begins with a given word are ones. */
    private static int onesBefore(long[] words, int firstWord, int place) {
        int ones = 0;
        int whole = place >> 6;
        for (int word = 0; word < whole; word++) {
            ones += onesIn(words[firstWord + word]);
        }
        int rest = place & 63;
        if (rest != 0) {
            ones += onesIn(words[firstWord + whole] & ((1L << rest) - 1));
        }
        return ones;
    }

    private static int onesIn(long word) {
        long pairs = word - (word >>> 1 & 0x5555555555555555L);
        long fours = (pairs & 0x3333333333333333L) + (pairs >>> 2 & 0x3333333333333333L);
        long bytes = fours + (fours >>> 4) & 0x0f0f0f0f0f0f0f0fL;
        return (int) (bytes * 0x0101010101010101L >>> 56);
    }

    private static void putTriple(long[] words, int place, int value) {
        words[place / TRIPLES] |= (long) value << (place % TRIPLES * LETTER_BITS);
    }

    private static int tripleAt(long[] words, int place) {
        return (int) (words[place / TRIPLES] >>> (place % TRIPLES * LETTER_BITS)) & (LETTERS - 1);
    }
}
