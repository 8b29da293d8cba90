import java.util.ArrayList;
import java.util.Arrays;
import java.util.List;

/**
 * A new object, asked by one engine for one sentence of the document. A method that bears the name
 * of one of the class makes that call; its last argument is the answer that is due. A sentence is
 * tried with each of the seven engines, so that no engine can break it alone.
 */
final class Probe {
    static final int BAD = -1;
    static final int FULL = -2;
    static final int MIN = Integer.MIN_VALUE;
    static final int MAX = Integer.MAX_VALUE;
    static final int CAPACITY = 200;
    static final int ENGINES = 7;
    static final int LETTERS = 8;
    /** The document promises nothing about an object after this many calls. */
    static final int CALLS = 512;

    /** What a sentence asks of a new object. */
    interface Trial {
        void run(Probe p);
    }

    private static final int SHOWN = 5;
    private static int sentences = 0;
    private static int broken = 0;
    private static int wrongHere = 0;
    private static int checksHere = 0;

    private final SuccinctSuite x = new SuccinctSuite();
    private final int engine;
    private int calls = 0;
    private final StringBuilder past = new StringBuilder();

    private Probe(int engine) {
        this.engine = engine;
    }

    // ---- sentences ----

    static void sentence(String words, Trial trial) {
        sentences++;
        wrongHere = 0;
        checksHere = 0;
        for (int engine = 0; engine < ENGINES; engine++) {
            try {
                trial.run(new Probe(engine));
            } catch (RuntimeException thrown) {
                complain("engine " + engine + ": a call threw " + thrown);
            }
        }
        if (checksHere == 0) {
            complain("nothing was looked at");
        }
        if (wrongHere > 0) {
            broken++;
            System.out.println("BROKEN, " + wrongHere + " answers of " + checksHere + ": " + words);
        }
    }

    static void end() {
        System.out.println(broken == 0 ? "all " + sentences + " sentences hold" : broken + " sentences are broken");
        if (broken != 0) {
            System.exit(1);
        }
    }

    private static void complain(String text) {
        wrongHere++;
        if (wrongHere <= SHOWN) {
            System.out.println(text);
        }
    }

    // ---- values ----

    /** The numbers just outside, those far outside, and those that would fall inside if bits were lost. */
    static int[] outside(int least, int greatest) {
        int[] all = {
            least - 1, greatest + 1, least - 2, greatest + 2, MIN, MIN + 1, MIN + least, MIN + greatest,
            MAX, MAX - 1, least + 256, greatest + 256, least - 256, greatest - 256, least + 65536, greatest - 65536
        };
        return Arrays.stream(all).filter(value -> value < least || value > greatest).distinct().toArray();
    }

    /** Pairs that are no range of a list of this length. */
    static int[][] noRanges(int length) {
        return new int[][] {
            {-1, 0}, {-1, -1}, {-1, length}, {0, length + 1}, {length, length + 1}, {length + 1, length + 1},
            {1, 0}, {length, length - 1}, {length + 1, 0}, {length + 1, length}, {0, -1}, {-2, -1},
            {MIN, 0}, {MIN, length}, {MIN, MIN}, {MIN, MAX}, {0, MIN}, {length, MIN},
            {0, MAX}, {length, MAX}, {MAX, MAX}, {MAX, 0}, {MAX, length}, {MAX, MIN}, {MAX - 1, MAX},
            {256, 256}, {-256, 0}, {0, 256}, {-256, -256}, {65536, 65536}, {MIN, MIN + length}
        };
    }

    private static final int[] PATTERN = {7, 0, 5, 5, 2, 6, 0, 4, 1, 3, 3};

    /** The letters of the object that 'filled' makes; every letter is among the first eleven. */
    static int[] letters(int length) {
        int[] result = new int[length];
        for (int i = 0; i < length; i++) {
            result[i] = PATTERN[i % PATTERN.length];
        }
        return result;
    }

    static int[] lengths() {
        return new int[] {0, 1, 2, 8, 199, 200};
    }

    static int[] with(int[] letters, int i, int letter) {
        int[] result = letters.clone();
        result[i] = letter;
        return result;
    }

    static int[] join(int[] letters, int... more) {
        int[] result = Arrays.copyOf(letters, letters.length + more.length);
        System.arraycopy(more, 0, result, letters.length, more.length);
        return result;
    }

    static int[] times(int letter, int n) {
        int[] result = new int[n];
        Arrays.fill(result, letter);
        return result;
    }

    static int count(int[] letters, int letter, int from, int to) {
        int count = 0;
        for (int i = from; i < to; i++) {
            count += letters[i] == letter ? 1 : 0;
        }
        return count;
    }

    // ---- objects ----

    Probe fresh() {
        return new Probe(engine);
    }

    /** A new object with these letters, in as few calls as runs. */
    Probe fresh(int... letters) {
        Probe p = fresh();
        int start = 0;
        for (int i = 1; i <= letters.length; i++) {
            if (i == letters.length || letters[i] != letters[start]) {
                p.append(letters[start], i - start, i);
                start = i;
            }
        }
        return p;
    }

    /** A new object with letters(length), in few calls, so that a list of 200 can be looked at twice. */
    Probe filled(int length) {
        int first = Math.min(length, PATTERN.length);
        Probe p = fresh(Arrays.copyOf(PATTERN, first));
        if (length > first) {
            p.again(first, length - first, length);
        }
        return p;
    }

    int engine() {
        return engine;
    }

    /** The whole list as this engine tells it, and what the questions without an engine tell. */
    void holds(int... letters) {
        int length = letters.length;
        cut(0, length);
        for (int i = 0; i < length; i++) {
            at(i, letters[i]);
        }
        at(length, BAD);
        for (int letter = 0; letter < LETTERS; letter++) {
            rank(letter, length, count(letters, letter, 0, length));
        }
        rank(0, length + 1, BAD);
        different(0, length, (int) Arrays.stream(letters).distinct().count());
        different(0, length + 1, BAD);
        int changes = length == 0 ? 0 : 1;
        for (int i = 1; i < length; i++) {
            changes += letters[i] == letters[i - 1] ? 0 : 1;
        }
        runs(changes);
        if (length == 0) {
            bits(0);
        }
    }

    // ---- calls ----

    private void due(String call, int got, int want) {
        calls++;
        checksHere++;
        past.append(' ').append(call);
        if (calls > CALLS) {
            complain("the test itself makes more than " + CALLS + " calls on an object");
        }
        if (got != want) {
            complain("engine " + engine + ", call " + calls + ": " + call + " answered " + got + ", due is " + want + "; calls:" + lastOf(past));
        }
    }

    private static String lastOf(StringBuilder calls) {
        return calls.length() <= 200 ? calls.toString() : " .." + calls.substring(calls.length() - 200);
    }

    private static String text(String name, int... arguments) {
        List<String> parts = new ArrayList<>();
        for (int argument : arguments) {
            parts.add(String.valueOf(argument));
        }
        return name + "(" + String.join(", ", parts) + ")";
    }

    void append(int letter, int n, int want) {
        due(text("append", letter, n), x.append(letter, n), want);
    }

    void again(int back, int n, int want) {
        due(text("again", back, n), x.again(back, n), want);
    }

    void change(int i, int letter, int want) {
        due(text("change", i, letter), x.change(i, letter), want);
    }

    void cut(int n, int want) {
        due(text("cut", n), x.cut(n), want);
    }

    void at(int i, int want) {
        atBy(engine, i, want);
    }

    void atBy(int engine, int i, int want) {
        due(text("at", engine, i), x.at(engine, i), want);
    }

    void rank(int letter, int i, int want) {
        rankBy(engine, letter, i, want);
    }

    void rankBy(int engine, int letter, int i, int want) {
        due(text("rank", engine, letter, i), x.rank(engine, letter, i), want);
    }

    void select(int letter, int k, int want) {
        selectBy(engine, letter, k, want);
    }

    void selectBy(int engine, int letter, int k, int want) {
        due(text("select", engine, letter, k), x.select(engine, letter, k), want);
    }

    void below(int i, int j, int letter, int want) {
        belowBy(engine, i, j, letter, want);
    }

    void belowBy(int engine, int i, int j, int letter, int want) {
        due(text("below", engine, i, j, letter), x.below(engine, i, j, letter), want);
    }

    void ordered(int i, int j, int k, int want) {
        orderedBy(engine, i, j, k, want);
    }

    void orderedBy(int engine, int i, int j, int k, int want) {
        due(text("ordered", engine, i, j, k), x.ordered(engine, i, j, k), want);
    }

    void most(int i, int j, int want) {
        mostBy(engine, i, j, want);
    }

    void mostBy(int engine, int i, int j, int want) {
        due(text("most", engine, i, j), x.most(engine, i, j), want);
    }

    void different(int i, int j, int want) {
        due(text("different", i, j), x.different(i, j), want);
    }

    void next(int letter, int i, int want) {
        due(text("next", letter, i), x.next(letter, i), want);
    }

    void runs(int want) {
        due("runs()", x.runs(), want);
    }

    void agree(int other, boolean want) {
        agreeBy(engine, other, want);
    }

    void agreeBy(int engine, int other, boolean want) {
        due(text("agree", engine, other), x.agree(engine, other) ? 1 : 0, want ? 1 : 0);
    }

    void bits(int want) {
        due("bits()", x.bits(), want);
    }
}
