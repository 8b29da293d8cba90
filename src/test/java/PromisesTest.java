/**
 * For each promise of the document: ordinary inputs, the edges that it names and wrong inputs,
 * each with the answer that the document asks for.
 */
public final class PromisesTest {
    private static final int BAD = -1;
    private static final int FULL = -2;
    private static final int MIN = Integer.MIN_VALUE;
    private static final int MAX = Integer.MAX_VALUE;
    private static final int[] NO_LETTERS = {-1, 8, 9, 255, 256, MIN, MAX};
    private static final int[] NO_ENGINES = {-1, 7, 8, 256, MIN, MAX};
    private static int wrong = 0;

    private static void due(String call, long got, long want) {
        if (got != want) {
            wrong++;
            System.out.println(call + " answered " + got + ", due is " + want);
        }
    }

    private static void due(String call, boolean got, boolean want) {
        due(call, got ? 1 : 0, want ? 1 : 0);
    }

    private static SuccinctSuite of(int... letters) {
        SuccinctSuite x = new SuccinctSuite();
        for (int letter : letters) {
            x.append(letter, 1);
        }
        return x;
    }

    /** Looks at the list by every engine; cut(0) tells the length. */
    private static void holds(String when, SuccinctSuite x, int... letters) {
        due(when + ": length", x.cut(0), letters.length);
        for (int engine = 0; engine < 7; engine++) {
            for (int i = 0; i < letters.length; i++) {
                due(when + ": at(" + engine + ", " + i + ")", x.at(engine, i), letters[i]);
            }
            due(when + ": at(" + engine + ", length)", x.at(engine, letters.length), BAD);
        }
    }

    private static void promise1NewObject() {
        SuccinctSuite x = new SuccinctSuite();
        for (int engine = 0; engine < 7; engine++) {
            due("1 at", x.at(engine, 0), BAD);
            for (int letter = 0; letter < 8; letter++) {
                due("1 rank", x.rank(engine, letter, 0), 0);
                due("1 select", x.select(engine, letter, 0), BAD);
            }
            due("1 rank beyond", x.rank(engine, 0, 1), BAD);
            due("1 below", x.below(engine, 0, 0, 8), 0);
            due("1 ordered", x.ordered(engine, 0, 0, 0), BAD);
            due("1 most", x.most(engine, 0, 0), BAD);
        }
        due("1 different", x.different(0, 0), 0);
        due("1 next", x.next(0, 0), BAD);
        due("1 runs", x.runs(), 0);
        due("1 bits", x.bits(), 0);
        due("1 agree", x.agree(0, 6), true);
        due("1 cut", x.cut(0), 0);
        SuccinctSuite full = new SuccinctSuite();
        full.append(3, 200);
        due("1 objects are apart", x.cut(0), 0);
        due("1 BAD", SuccinctSuite.BAD, -1);
        due("1 FULL", SuccinctSuite.FULL, -2);
    }

    private static void promise2Append() {
        SuccinctSuite x = new SuccinctSuite();
        due("2 append(5, 2)", x.append(5, 2), 2);
        due("2 append(0, 1)", x.append(0, 1), 3);
        due("2 append(7, 3)", x.append(7, 3), 6);
        for (int letter : NO_LETTERS) {
            due("2 append(" + letter + ", 1)", x.append(letter, 1), BAD);
        }
        for (int n : new int[] {0, -1, 201, MIN, MAX}) {
            due("2 append(0, " + n + ")", x.append(0, n), BAD);
        }
        holds("2 after BAD", x, 5, 5, 0, 7, 7, 7);
        due("2 one too many", x.append(1, 195), FULL);
        due("2 far too many", x.append(1, 200), FULL);
        holds("2 after FULL", x, 5, 5, 0, 7, 7, 7);
        due("2 just full", x.append(1, 194), 200);
        due("2 full", x.append(1, 1), FULL);
        for (int engine = 0; engine < 7; engine++) {
            due("2 last letter", x.at(engine, 199), 1);
        }
        SuccinctSuite whole = new SuccinctSuite();
        due("2 append(6, 200)", whole.append(6, 200), 200);
    }

    private static void promise3Again() {
        SuccinctSuite x = of(1, 2, 3);
        due("3 again(3, 2)", x.again(3, 2), 5);
        holds("3 whole length back", x, 1, 2, 3, 1, 2);
        due("3 again(1, 3)", x.again(1, 3), 8);
        holds("3 one back", x, 1, 2, 3, 1, 2, 2, 2, 2);
        SuccinctSuite y = of(4, 6);
        due("3 again(2, 5)", y.again(2, 5), 7);
        holds("3 n above back", y, 4, 6, 4, 6, 4, 6, 4);
        for (int back : new int[] {0, -1, 8, MIN, MAX}) {
            due("3 again(" + back + ", 1)", y.again(back, 1), BAD);
        }
        for (int n : new int[] {0, -1, 201, MIN, MAX}) {
            due("3 again(1, " + n + ")", y.again(1, n), BAD);
        }
        due("3 one too many", y.again(7, 194), FULL);
        due("3 far too many", y.again(7, 200), FULL);
        holds("3 after BAD and FULL", y, 4, 6, 4, 6, 4, 6, 4);
        due("3 just full", y.again(7, 193), 200);
        due("3 full", y.again(200, 1), FULL);
        due("3 empty", new SuccinctSuite().again(1, 1), BAD);
        due("3 empty, 0 back", new SuccinctSuite().again(0, 1), BAD);
    }

    private static void promise4Change() {
        SuccinctSuite x = of(1, 2, 3);
        due("4 change(0, 7)", x.change(0, 7), 1);
        due("4 change(2, 0)", x.change(2, 0), 3);
        due("4 same letter", x.change(1, 2), 2);
        holds("4", x, 7, 2, 0);
        due("4 change again", x.change(0, 1), 7);
        for (int i : new int[] {-1, 3, 200, MIN, MAX}) {
            due("4 change(" + i + ", 0)", x.change(i, 0), BAD);
        }
        for (int letter : NO_LETTERS) {
            due("4 change(0, " + letter + ")", x.change(0, letter), BAD);
        }
        holds("4 after BAD", x, 1, 2, 0);
        x.cut(1);
        due("4 a place that was cut", x.change(2, 5), BAD);
        due("4 empty", new SuccinctSuite().change(0, 0), BAD);
    }

    private static void promise5Cut() {
        SuccinctSuite x = of(1, 2, 3, 4, 5);
        due("5 cut(0)", x.cut(0), 5);
        due("5 cut(2)", x.cut(2), 3);
        holds("5", x, 1, 2, 3);
        for (int n : new int[] {-1, 201, MIN, MAX}) {
            due("5 cut(" + n + ")", x.cut(n), BAD);
        }
        holds("5 after BAD", x, 1, 2, 3);
        due("5 append after cut", x.append(7, 1), 4);
        holds("5 append after cut", x, 1, 2, 3, 7);
        due("5 all", x.cut(4), 0);
        due("5 of none", x.cut(200), 0);
        holds("5 empty", x);
        SuccinctSuite y = of(1, 2);
        due("5 more than all", y.cut(3), 0);
        SuccinctSuite z = new SuccinctSuite();
        z.append(1, 200);
        due("5 cut(200)", z.cut(200), 0);
        due("5 nothing is left to repeat", z.again(1, 1), BAD);
        due("5 runs", z.runs(), 0);
        due("5 bits", z.bits(), 0);
    }

    private static void promise6At() {
        SuccinctSuite x = of(0, 1, 2, 3, 4, 5, 6, 7);
        holds("6", x, 0, 1, 2, 3, 4, 5, 6, 7);
        for (int i : new int[] {-1, 8, 199, 200, 256, MIN, MAX}) {
            for (int engine = 0; engine < 7; engine++) {
                due("6 at(" + engine + ", " + i + ")", x.at(engine, i), BAD);
            }
        }
        for (int engine : NO_ENGINES) {
            due("6 at(" + engine + ", 0)", x.at(engine, 0), BAD);
        }
    }

    private static void promise7Rank() {
        SuccinctSuite x = of(3, 0, 3, 7, 3);
        int[] want = {0, 1, 1, 2, 2, 3};
        for (int engine = 0; engine < 7; engine++) {
            for (int i = 0; i < want.length; i++) {
                due("7 rank(" + engine + ", 3, " + i + ")", x.rank(engine, 3, i), want[i]);
            }
            due("7 absent letter", x.rank(engine, 5, 5), 0);
            for (int i : new int[] {-1, 6, 200, MIN, MAX}) {
                due("7 rank(" + engine + ", 3, " + i + ")", x.rank(engine, 3, i), BAD);
            }
            for (int letter : NO_LETTERS) {
                due("7 rank(" + engine + ", " + letter + ", 0)", x.rank(engine, letter, 0), BAD);
            }
        }
        for (int engine : NO_ENGINES) {
            due("7 rank(" + engine + ", 3, 0)", x.rank(engine, 3, 0), BAD);
        }
    }

    private static void promise8Select() {
        SuccinctSuite x = of(3, 0, 3, 7, 3);
        for (int engine = 0; engine < 7; engine++) {
            due("8 first", x.select(engine, 3, 0), 0);
            due("8 second", x.select(engine, 3, 1), 2);
            due("8 last", x.select(engine, 3, 2), 4);
            due("8 only", x.select(engine, 7, 0), 3);
            due("8 absent letter", x.select(engine, 5, 0), BAD);
            for (int k : new int[] {-1, 3, 5, MIN, MAX}) {
                due("8 select(" + engine + ", 3, " + k + ")", x.select(engine, 3, k), BAD);
            }
            for (int letter : NO_LETTERS) {
                due("8 select(" + engine + ", " + letter + ", 0)", x.select(engine, letter, 0), BAD);
            }
        }
        for (int engine : NO_ENGINES) {
            due("8 select(" + engine + ", 3, 0)", x.select(engine, 3, 0), BAD);
        }
        SuccinctSuite full = new SuccinctSuite();
        full.append(2, 200);
        for (int engine = 0; engine < 7; engine++) {
            due("8 last of all", full.select(engine, 2, 199), 199);
            due("8 beyond the last", full.select(engine, 2, 200), BAD);
        }
    }

    private static final int[][] NO_RANGES = {
        {-1, 0}, {-1, 3}, {2, 1}, {0, 9}, {9, 9}, {8, 9}, {3, 0}, {MIN, MAX}, {MIN, MIN}, {MAX, MAX}, {MAX, MIN}, {0, MAX}, {MIN, 0}
    };

    private static void promise9Below() {
        SuccinctSuite x = of(7, 0, 5, 5, 2, 6, 0, 4);
        for (int engine = 0; engine < 7; engine++) {
            int[] all = {0, 2, 2, 3, 3, 4, 6, 7, 8};
            for (int letter = 0; letter <= 8; letter++) {
                due("9 below(" + engine + ", 0, 8, " + letter + ")", x.below(engine, 0, 8, letter), all[letter]);
            }
            due("9 inner range", x.below(engine, 2, 5, 5), 1);
            due("9 inner range, all", x.below(engine, 2, 5, 8), 3);
            for (int i = 0; i <= 8; i++) {
                due("9 empty range", x.below(engine, i, i, 8), 0);
            }
            for (int letter : new int[] {-1, 9, MIN, MAX}) {
                due("9 letter " + letter, x.below(engine, 0, 8, letter), BAD);
                due("9 empty range, letter " + letter, x.below(engine, 0, 0, letter), BAD);
            }
            for (int[] range : NO_RANGES) {
                due("9 range " + range[0] + " " + range[1], x.below(engine, range[0], range[1], 3), BAD);
            }
        }
        for (int engine : NO_ENGINES) {
            due("9 engine " + engine, x.below(engine, 0, 8, 3), BAD);
        }
    }

    private static void promise10Ordered() {
        SuccinctSuite x = of(7, 0, 5, 5, 2, 6, 0, 4);
        int[] sorted = {0, 0, 2, 4, 5, 5, 6, 7};
        for (int engine = 0; engine < 7; engine++) {
            for (int k = 0; k < 8; k++) {
                due("10 ordered(" + engine + ", 0, 8, " + k + ")", x.ordered(engine, 0, 8, k), sorted[k]);
            }
            due("10 inner range", x.ordered(engine, 2, 5, 0), 2);
            due("10 inner range, last", x.ordered(engine, 2, 5, 2), 5);
            for (int k : new int[] {-1, 3, 7, MIN, MAX}) {
                due("10 inner range, k " + k, x.ordered(engine, 2, 5, k), BAD);
            }
            due("10 empty range", x.ordered(engine, 4, 4, 0), BAD);
            for (int[] range : NO_RANGES) {
                due("10 range " + range[0] + " " + range[1], x.ordered(engine, range[0], range[1], 0), BAD);
            }
        }
        for (int engine : NO_ENGINES) {
            due("10 engine " + engine, x.ordered(engine, 0, 8, 0), BAD);
        }
    }

    private static void promise11Most() {
        SuccinctSuite x = of(7, 0, 5, 5, 2, 6, 0, 5);
        for (int engine = 0; engine < 7; engine++) {
            due("11 all", x.most(engine, 0, 8), 5);
            due("11 of two the least", x.most(engine, 0, 7), 0);
            due("11 of many the least", x.most(engine, 4, 6), 2);
            due("11 one place", x.most(engine, 0, 1), 7);
            for (int i = 0; i <= 8; i++) {
                due("11 empty range", x.most(engine, i, i), BAD);
            }
            for (int[] range : NO_RANGES) {
                due("11 range " + range[0] + " " + range[1], x.most(engine, range[0], range[1]), BAD);
            }
        }
        for (int engine : NO_ENGINES) {
            due("11 engine " + engine, x.most(engine, 0, 8), BAD);
        }
    }

    private static void promise12Different() {
        SuccinctSuite x = of(7, 0, 5, 5, 2, 6, 0, 5);
        due("12 all", x.different(0, 8), 5);
        due("12 same letters", x.different(2, 4), 1);
        due("12 inner range", x.different(1, 4), 2);
        for (int i = 0; i <= 8; i++) {
            due("12 empty range", x.different(i, i), 0);
        }
        for (int[] range : NO_RANGES) {
            due("12 range " + range[0] + " " + range[1], x.different(range[0], range[1]), BAD);
        }
        due("12 every letter", of(7, 6, 5, 4, 3, 2, 1, 0).different(0, 8), 8);
    }

    private static void promise13Next() {
        SuccinctSuite x = of(7, 0, 5, 5, 2, 6, 0, 5);
        due("13 at the place itself", x.next(5, 3), 3);
        due("13 later", x.next(0, 2), 6);
        due("13 from 0", x.next(0, 0), 1);
        due("13 the last place", x.next(5, 7), 7);
        due("13 from below", x.next(7, -1), 0);
        due("13 from far below", x.next(6, MIN), 5);
        due("13 none from there", x.next(7, 1), BAD);
        due("13 absent letter", x.next(1, 0), BAD);
        for (int i : new int[] {8, 200, MAX}) {
            due("13 from " + i, x.next(5, i), BAD);
        }
        for (int letter : NO_LETTERS) {
            due("13 letter " + letter, x.next(letter, 0), BAD);
        }
        x.cut(1);
        due("13 a letter that was cut", x.next(5, 4), BAD);
    }

    private static void promise14Runs() {
        due("14 one letter", of(0).runs(), 1);
        due("14 one run", of(0, 0, 0).runs(), 1);
        due("14 two runs", of(0, 0, 1).runs(), 2);
        due("14 a letter comes back", of(4, 1, 4, 4, 1).runs(), 4);
        SuccinctSuite x = of(6, 3);
        x.again(2, 198);
        due("14 all places differ", x.runs(), 200);
        x.change(100, 3);
        due("14 after change", x.runs(), 198);
        x.cut(150);
        due("14 after cut", x.runs(), 50);
        due("14 append of the last letter", x.append(3, 1) * 1000 + x.runs(), 51050);
    }

    private static void promise15Agree() {
        SuccinctSuite x = of(7, 0, 5, 5, 2, 6, 0, 5);
        x.again(8, 150);
        for (int engine = 0; engine < 7; engine++) {
            for (int other = 0; other < 7; other++) {
                due("15 agree(" + engine + ", " + other + ")", x.agree(engine, other), true);
                due("15 empty", new SuccinctSuite().agree(engine, other), true);
            }
            for (int none : NO_ENGINES) {
                due("15 agree(" + engine + ", " + none + ")", x.agree(engine, none), false);
                due("15 agree(" + none + ", " + engine + ")", x.agree(none, engine), false);
            }
        }
        for (int none : NO_ENGINES) {
            due("15 agree(" + none + ", " + none + ")", x.agree(none, none), false);
            due("15 empty, no engine", new SuccinctSuite().agree(none, none), false);
        }
    }

    private static SuccinctSuite withCounts(int... counts) {
        SuccinctSuite x = new SuccinctSuite();
        for (int letter = 0; letter < counts.length; letter++) {
            x.append(letter, counts[letter]);
        }
        return x;
    }

    private static void promise16Bits() {
        due("16 one letter", of(7).bits(), 1);
        due("16 one letter often", of(3, 3, 3).bits(), 3);
        due("16 two letters", of(3, 3, 4).bits(), 3);
        due("16 three letters", of(1, 1, 2, 5).bits(), 6);
        due("16 eight letters", of(0, 1, 2, 3, 4, 5, 6, 7).bits(), 24);
        due("16 eight letters, full", withCounts(25, 25, 25, 25, 25, 25, 25, 25).bits(), 600);
        // Fibonacci's numbers need the longest words: 7 7 6 5 4 3 2 1.
        due("16 longest words", withCounts(1, 1, 2, 3, 5, 8, 13, 21).bits(), 7 + 7 + 12 + 15 + 20 + 24 + 26 + 21);
        due("16 longest words, other order", withCounts(21, 13, 8, 5, 3, 2, 1, 1).bits(), 132);
        SuccinctSuite x = of(1, 1, 2, 5);
        x.change(3, 2);
        due("16 after change", x.bits(), 4);
        x.cut(2);
        due("16 after cut", x.bits(), 2);
    }

    private static void promise17OrderAndLimits() {
        SuccinctSuite x = new SuccinctSuite();
        x.append(2, 199);
        x.append(5, 1);
        due("17 append, letter before FULL", x.append(8, 1), BAD);
        due("17 append, n before FULL", x.append(0, 201), BAD);
        due("17 append, n 0 before FULL", x.append(0, 0), BAD);
        due("17 append, FULL", x.append(0, 200), FULL);
        due("17 again, back before FULL", x.again(201, 1), BAD);
        due("17 again, back 0 before FULL", x.again(0, 1), BAD);
        due("17 again, n before FULL", x.again(1, 201), BAD);
        due("17 again, n 0 before FULL", x.again(1, 0), BAD);
        due("17 again, FULL", x.again(1, 200), FULL);
        due("17 cut, BAD", x.cut(201), BAD);
        due("17 cut, BAD", x.cut(-1), BAD);
        due("17 nothing has changed: length", x.cut(0), 200);
        due("17 nothing has changed: runs", x.runs(), 2);
        for (int engine = 0; engine < 7; engine++) {
            due("17 nothing has changed: rank", x.rank(engine, 2, 200), 199);
            due("17 nothing has changed: at", x.at(engine, 199), 5);
            due("17 below, empty range", x.below(engine, 200, 200, 8), 0);
        }
        due("17 different, empty range", x.different(200, 200), 0);
        due("17 different, empty range", x.different(0, 0), 0);
    }

    public static void main(String[] args) {
        promise1NewObject();
        promise2Append();
        promise3Again();
        promise4Change();
        promise5Cut();
        promise6At();
        promise7Rank();
        promise8Select();
        promise9Below();
        promise10Ordered();
        promise11Most();
        promise12Different();
        promise13Next();
        promise14Runs();
        promise15Agree();
        promise16Bits();
        promise17OrderAndLimits();
        System.out.println(wrong == 0 ? "all answers are as due" : wrong + " answers are not as due");
        if (wrong != 0) {
            System.exit(1);
        }
    }
}
