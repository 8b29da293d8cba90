import java.util.Arrays;

/**
 * The boundary cases of the questions to an engine, promises 6 to 11 and 15: each sentence of the
 * document that names one has its own test here, under its own words.
 */
public final class EngineBoundaryTest {
    private static final int BAD = Probe.BAD;
    private static final int MIN = Probe.MIN;
    private static final int MAX = Probe.MAX;
    private static final int[] NO_LETTERS = Probe.outside(0, 7);
    private static final int[] NO_NUMBERS = Probe.outside(0, 8);
    private static final int[] NO_ENGINES = Probe.outside(0, 6);
    private static final int[] SOME_LENGTHS = {1, 2, 8, 64, 128, 199, 200};

    private static void terms() {
        Probe.sentence("Terms: An ENGINE is a number 0 .. 6 (the least and the greatest, and each between)", p -> {
            for (int engine = 0; engine <= 6; engine++) {
                Probe q = p.fresh(4);
                q.atBy(engine, 0, 4);
                q.rankBy(engine, 4, 1, 1);
                q.selectBy(engine, 4, 0, 0);
                q.belowBy(engine, 0, 1, 5, 1);
                q.orderedBy(engine, 0, 1, 0, 4);
                q.mostBy(engine, 0, 1, 4);
                q.agreeBy(engine, engine, true);
            }
        });
        Probe.sentence("Terms: no answer depends on it (a full list, asked at every place)", p -> {
            int[] letters = Probe.letters(200);
            for (int letter = 0; letter < 8; letter++) {
                Probe q = p.filled(200);
                int seen = 0;
                for (int i = 0; i < 200; i++) {
                    q.rank(letter, i, seen);
                    if (letters[i] == letter) {
                        q.select(letter, seen, i);
                        seen++;
                    }
                }
                q.rank(letter, 200, seen);
                q.select(letter, seen, BAD);
            }
        });
        Probe.sentence("Terms: A RANGE has the places i, i + 1, .., j - 1 (i is in it, j is not)", p -> {
            Probe q = p.fresh(1, 2, 3, 4, 5);
            q.below(1, 4, 8, 3);
            q.ordered(1, 4, 0, 2);
            q.ordered(1, 4, 2, 4);
            q.most(1, 2, 2);
            q.most(0, 1, 1);
            q.most(4, 5, 5);
            q.different(1, 4, 3);
        });
    }

    private static void promise6() {
        Probe.sentence("6: The letter at place i (the first and the last)", p -> {
            for (int length : SOME_LENGTHS) {
                Probe q = p.filled(length);
                q.at(0, 7);
                q.at(length - 1, Probe.letters(length)[length - 1]);
            }
        });
        Probe.sentence("6: The letter at place i (the least and the greatest letter, at every place of a full list)", p -> {
            for (int letter : new int[] {0, 7}) {
                Probe q = p.fresh(Probe.times(letter, 200));
                for (int i = 0; i < 200; i++) {
                    q.at(i, letter);
                }
            }
        });
        Probe.sentence("6: BAD when there is none", p -> {
            for (int length : SOME_LENGTHS) {
                Probe q = p.filled(length);
                for (int i : Probe.outside(0, length - 1)) {
                    q.at(i, BAD);
                }
            }
        });
        Probe.sentence("6: BAD when there is none (the list is empty)", p -> {
            for (int i : new int[] {0, 1, -1, 199, 200, 256, MIN, MAX}) {
                p.at(i, BAD);
            }
        });
        Probe.sentence("6: BAD when there is none (it was cut away)", p -> {
            Probe q = p.filled(200);
            q.cut(1, 199);
            q.at(199, BAD);
            q.at(198, 7);
            q.cut(199, 0);
            q.at(0, BAD);
        });
        Probe.sentence("6: BAD when no such engine", p -> {
            Probe q = p.filled(200);
            for (int engine : NO_ENGINES) {
                q.atBy(engine, 0, BAD);
                q.atBy(engine, 199, BAD);
                q.atBy(engine, 200, BAD);
                p.atBy(engine, 0, BAD);
            }
        });
    }

    private static void promise7() {
        Probe.sentence("7: at places before i (i is 0: none is before it)", p -> {
            for (int length : Probe.lengths()) {
                Probe q = p.filled(length);
                for (int letter = 0; letter < 8; letter++) {
                    q.rank(letter, 0, 0);
                }
            }
        });
        Probe.sentence("7: at places before i (i is the length: all are before it)", p -> {
            for (int length : SOME_LENGTHS) {
                Probe q = p.filled(length);
                for (int letter = 0; letter < 8; letter++) {
                    q.rank(letter, length, Probe.count(Probe.letters(length), letter, 0, length));
                }
            }
            Probe same = p.fresh(Probe.times(7, 200));
            same.rank(7, 200, 200);
            same.rank(0, 200, 0);
        });
        Probe.sentence("7: at places before i (not at i itself)", p -> {
            Probe q = p.fresh(Probe.join(Probe.times(0, 199), 7));
            q.rank(7, 199, 0);
            q.rank(7, 200, 1);
            q.rank(0, 1, 1);
            q.rank(0, 199, 199);
            q.rank(0, 200, 199);
        });
        Probe.sentence("7: BAD when i is out of range", p -> {
            for (int length : Probe.lengths()) {
                Probe q = p.filled(length);
                for (int i : Probe.outside(0, length)) {
                    q.rank(0, i, BAD);
                    q.rank(7, i, BAD);
                }
            }
        });
        Probe.sentence("7: BAD when i is out of range (it was cut away)", p -> {
            Probe q = p.filled(200);
            q.cut(1, 199);
            q.rank(7, 200, BAD);
            q.rank(7, 199, 19);
            q.cut(199, 0);
            q.rank(7, 1, BAD);
            q.rank(7, 0, 0);
        });
        Probe.sentence("7: BAD when there is no such letter", p -> {
            for (int length : Probe.lengths()) {
                Probe q = p.filled(length);
                for (int letter : NO_LETTERS) {
                    q.rank(letter, 0, BAD);
                    q.rank(letter, length, BAD);
                    q.rank(letter, length + 1, BAD);
                }
            }
        });
        Probe.sentence("7: a letter that stands nowhere is still a letter (0 times)", p -> {
            Probe q = p.fresh(3, 3, 3);
            for (int letter : new int[] {0, 2, 4, 7}) {
                q.rank(letter, 3, 0);
            }
        });
        Probe.sentence("7: BAD when no such engine", p -> {
            for (int length : Probe.lengths()) {
                Probe q = p.filled(length);
                for (int engine : NO_ENGINES) {
                    q.rankBy(engine, 0, 0, BAD);
                    q.rankBy(engine, 7, length, BAD);
                    q.rankBy(engine, 8, length + 1, BAD);
                }
            }
        });
    }

    private static void promise8() {
        Probe.sentence("8: as number k (0 the first)", p -> {
            Probe q = p.fresh(6, 1, 6, 0, 7, 6);
            q.select(6, 0, 0);
            q.select(1, 0, 1);
            q.select(0, 0, 3);
            q.select(7, 0, 4);
        });
        Probe.sentence("8: as number k (the greatest there is)", p -> {
            Probe q = p.fresh(6, 1, 6, 0, 7, 6);
            q.select(6, 2, 5);
            for (int letter : new int[] {0, 7}) {
                Probe full = p.fresh(Probe.times(letter, 200));
                full.select(letter, 0, 0);
                full.select(letter, 199, 199);
            }
            Probe late = p.fresh(Probe.join(Probe.times(2, 199), 5));
            late.select(5, 0, 199);
            late.select(2, 198, 198);
        });
        Probe.sentence("8: BAD when there is none (k is below 0 or as large as the letter's number of places)", p -> {
            for (int length : SOME_LENGTHS) {
                Probe q = p.filled(length);
                for (int letter = 0; letter < 8; letter++) {
                    int count = Probe.count(Probe.letters(length), letter, 0, length);
                    for (int k : Probe.outside(0, count - 1)) {
                        q.select(letter, k, BAD);
                    }
                }
            }
        });
        Probe.sentence("8: BAD when there is none (a full list of one letter)", p -> {
            Probe q = p.fresh(Probe.times(7, 200));
            for (int k : Probe.outside(0, 199)) {
                q.select(7, k, BAD);
            }
            q.select(6, 0, BAD);
            q.select(0, 0, BAD);
        });
        Probe.sentence("8: BAD when there is none (the list is empty)", p -> {
            for (int letter = 0; letter < 8; letter++) {
                for (int k : new int[] {0, 1, -1, 199, 200, MIN, MAX}) {
                    p.select(letter, k, BAD);
                }
            }
        });
        Probe.sentence("8: BAD when there is none (its place was cut away or changed)", p -> {
            Probe q = p.fresh(3, 3, 3, 3);
            q.cut(1, 3);
            q.select(3, 3, BAD);
            q.select(3, 2, 2);
            q.change(1, 0, 3);
            q.select(3, 2, BAD);
            q.select(3, 1, 2);
        });
        Probe.sentence("8: BAD when no such letter", p -> {
            for (int length : Probe.lengths()) {
                Probe q = p.filled(length);
                for (int letter : NO_LETTERS) {
                    q.select(letter, 0, BAD);
                    q.select(letter, -1, BAD);
                }
            }
        });
        Probe.sentence("8: BAD when no such engine", p -> {
            for (int length : Probe.lengths()) {
                Probe q = p.filled(length);
                for (int engine : NO_ENGINES) {
                    q.selectBy(engine, 7, 0, BAD);
                    q.selectBy(engine, 8, 0, BAD);
                }
            }
        });
    }

    private static void promise9() {
        Probe.sentence("9: less than a number (0 .. 8) (none is less than 0)", p -> {
            for (int length : Probe.lengths()) {
                p.filled(length).below(0, length, 0, 0);
            }
            p.fresh(Probe.times(0, 200)).below(0, 200, 0, 0);
        });
        Probe.sentence("9: less than a number (0 .. 8) (all are less than 8)", p -> {
            for (int length : Probe.lengths()) {
                p.filled(length).below(0, length, 8, length);
            }
            Probe q = p.fresh(Probe.times(7, 200));
            q.below(0, 200, 8, 200);
            q.below(0, 200, 7, 0);
        });
        Probe.sentence("9: less than a number (the letter itself is not less)", p -> {
            for (int letter = 0; letter < 8; letter++) {
                Probe q = p.fresh(Probe.times(letter, 3));
                q.below(0, 3, letter, 0);
                q.below(0, 3, letter + 1, 3);
            }
        });
        Probe.sentence("9: letters of a range (the whole list, its first and its last place)", p -> {
            for (int length : SOME_LENGTHS) {
                int[] letters = Probe.letters(length);
                int small = (int) Arrays.stream(letters).filter(letter -> letter < 5).count();
                Probe q = p.filled(length);
                q.below(0, length, 5, small);
                q.below(0, 1, 7, 0);
                q.below(0, 1, 8, 1);
                q.below(length - 1, length, letters[length - 1], 0);
                q.below(length - 1, length, letters[length - 1] + 1, 1);
            }
        });
        Probe.sentence("9: BAD when there is no such range", p -> {
            for (int length : Probe.lengths()) {
                Probe q = p.filled(length);
                for (int[] range : Probe.noRanges(length)) {
                    for (int letter : new int[] {0, 4, 8}) {
                        q.below(range[0], range[1], letter, BAD);
                    }
                }
            }
        });
        Probe.sentence("9: BAD when there is no such range (it was cut away)", p -> {
            Probe q = p.filled(200);
            q.cut(1, 199);
            q.below(0, 200, 8, BAD);
            q.below(200, 200, 8, BAD);
            q.below(0, 199, 8, 199);
        });
        Probe.sentence("9: BAD when there is no such engine", p -> {
            for (int length : Probe.lengths()) {
                Probe q = p.filled(length);
                for (int engine : NO_ENGINES) {
                    q.belowBy(engine, 0, length, 0, BAD);
                    q.belowBy(engine, 0, length, 8, BAD);
                    q.belowBy(engine, 0, 0, 4, BAD);
                }
            }
        });
        Probe.sentence("9: BAD when letter is out of range", p -> {
            for (int length : Probe.lengths()) {
                Probe q = p.filled(length);
                for (int letter : NO_NUMBERS) {
                    q.below(0, length, letter, BAD);
                    q.below(0, 0, letter, BAD);
                    q.below(length, length, letter, BAD);
                }
            }
        });
        Probe.sentence("17: below answers 0 for an empty range", p -> {
            for (int length : Probe.lengths()) {
                Probe q = p.filled(length);
                for (int i = 0; i <= length; i++) {
                    q.below(i, i, 8, 0);
                }
                q.below(0, 0, 0, 0);
                q.below(length, length, 0, 0);
            }
        });
    }

    private static void promise10() {
        Probe.sentence("10: The letter number k (0 the least)", p -> {
            Probe q = p.fresh(7, 3, 5, 1);
            q.ordered(0, 4, 0, 1);
            q.ordered(0, 3, 0, 3);
            q.ordered(0, 1, 0, 7);
            Probe full = p.filled(200);
            full.ordered(0, 200, 0, 0);
            full.ordered(199, 200, 0, 0);
        });
        Probe.sentence("10: The letter number k (the greatest there is)", p -> {
            Probe q = p.fresh(1, 7, 5, 3);
            q.ordered(0, 4, 3, 7);
            q.ordered(2, 4, 1, 5);
            p.filled(200).ordered(0, 200, 199, 7);
            p.fresh(Probe.times(0, 200)).ordered(0, 200, 199, 0);
        });
        Probe.sentence("10: in the order of letters (equal ones are each counted)", p -> {
            int[] letters = Probe.letters(200);
            Arrays.sort(letters);
            Probe q = p.filled(200);
            for (int k = 0; k < 200; k++) {
                q.ordered(0, 200, k, letters[k]);
            }
        });
        Probe.sentence("10: BAD when there is none (k is below 0 or as large as the range)", p -> {
            for (int length : SOME_LENGTHS) {
                Probe q = p.filled(length);
                for (int k : Probe.outside(0, length - 1)) {
                    q.ordered(0, length, k, BAD);
                }
                for (int k : Probe.outside(0, 0)) {
                    q.ordered(length - 1, length, k, BAD);
                    q.ordered(0, 1, k, BAD);
                }
            }
        });
        Probe.sentence("10: BAD when there is none (the range is empty)", p -> {
            for (int length : Probe.lengths()) {
                Probe q = p.filled(length);
                for (int i = 0; i <= length; i++) {
                    q.ordered(i, i, 0, BAD);
                }
                for (int k : new int[] {-1, 1, 199, 200, MIN, MAX}) {
                    q.ordered(0, 0, k, BAD);
                    q.ordered(length, length, k, BAD);
                }
            }
        });
        Probe.sentence("10: BAD when no such range", p -> {
            for (int length : Probe.lengths()) {
                Probe q = p.filled(length);
                for (int[] range : Probe.noRanges(length)) {
                    for (int k : new int[] {0, 1, -1}) {
                        q.ordered(range[0], range[1], k, BAD);
                    }
                }
            }
        });
        Probe.sentence("10: BAD when no such engine", p -> {
            for (int length : Probe.lengths()) {
                Probe q = p.filled(length);
                for (int engine : NO_ENGINES) {
                    q.orderedBy(engine, 0, length, 0, BAD);
                    q.orderedBy(engine, 0, length, length - 1, BAD);
                }
            }
        });
    }

    private static void promise11() {
        Probe.sentence("11: The letter that stands most often in a range (by one, and by all)", p -> {
            Probe q = p.fresh(0, 7, 0, 7, 7);
            q.most(0, 5, 7);
            q.most(0, 3, 0);
            for (int letter : new int[] {0, 7}) {
                Probe full = p.fresh(Probe.times(letter, 200));
                full.most(0, 200, letter);
                full.most(0, 1, letter);
                full.most(199, 200, letter);
            }
            Probe half = p.fresh(Probe.join(Probe.times(0, 99), Probe.times(7, 101)));
            half.most(0, 200, 7);
        });
        Probe.sentence("11: of several the least", p -> {
            p.fresh(7, 6, 5, 4, 3, 2, 1, 0).most(0, 8, 0);
            p.fresh(7, 6, 5, 4, 3, 2, 1, 0).most(0, 2, 6);
            p.fresh(7, 7, 6, 6, 0).most(0, 5, 6);
            p.fresh(Probe.join(Probe.times(7, 100), Probe.times(0, 100))).most(0, 200, 0);
        });
        Probe.sentence("11: The letter that stands most often in a range (one place)", p -> {
            int[] letters = Probe.letters(200);
            Probe q = p.filled(200);
            for (int i = 0; i < 200; i++) {
                q.most(i, i + 1, letters[i]);
            }
        });
        Probe.sentence("11: BAD when there is no such range", p -> {
            for (int length : Probe.lengths()) {
                Probe q = p.filled(length);
                for (int[] range : Probe.noRanges(length)) {
                    q.most(range[0], range[1], BAD);
                }
            }
        });
        Probe.sentence("11: BAD when there is no such engine", p -> {
            for (int length : Probe.lengths()) {
                Probe q = p.filled(length);
                for (int engine : NO_ENGINES) {
                    q.mostBy(engine, 0, length, BAD);
                    q.mostBy(engine, 0, 0, BAD);
                }
            }
        });
        Probe.sentence("11: BAD when it is empty", p -> {
            for (int length : Probe.lengths()) {
                Probe q = p.filled(length);
                for (int i = 0; i <= length; i++) {
                    q.most(i, i, BAD);
                }
            }
        });
    }

    private static void promise15() {
        Probe.sentence("15: Whether two engines answer the same (every two, also one and itself)", p -> {
            for (int length : Probe.lengths()) {
                Probe q = p.filled(length);
                for (int other = 0; other <= 6; other++) {
                    q.agree(other, true);
                    q.agreeBy(other, q.engine(), true);
                }
            }
        });
        Probe.sentence("15: Whether two engines answer the same (after each kind of change, done or refused)", p -> {
            Probe q = p.fresh();
            Runnable asked = () -> {
                for (int other = 0; other <= 6; other++) {
                    q.agree(other, true);
                }
            };
            q.append(7, 120, 120);
            asked.run();
            q.again(60, 80, 200);
            asked.run();
            q.append(0, 1, Probe.FULL);
            asked.run();
            q.change(199, 0, 7);
            asked.run();
            q.cut(201, BAD);
            asked.run();
            q.cut(100, 100);
            asked.run();
            q.cut(200, 0);
            asked.run();
        });
        Probe.sentence("15: false when one is none", p -> {
            for (int length : Probe.lengths()) {
                Probe q = p.filled(length);
                for (int none : NO_ENGINES) {
                    q.agree(none, false);
                    q.agreeBy(none, q.engine(), false);
                }
            }
        });
        Probe.sentence("15: false when one is none (both, also when they are the same number)", p -> {
            for (int length : Probe.lengths()) {
                Probe q = p.filled(length);
                for (int none : NO_ENGINES) {
                    q.agreeBy(none, none, false);
                    q.agreeBy(none, 7, false);
                    q.agreeBy(-1, none, false);
                }
            }
        });
    }

    private static void unchanged() {
        Probe.sentence("6 to 11, 15: a question that is refused changes nothing", p -> {
            for (int length : Probe.lengths()) {
                Probe q = p.filled(length);
                for (int wrong : new int[] {-1, length + 1, 256, MIN, MAX}) {
                    q.at(wrong, BAD);
                    q.rank(0, wrong, BAD);
                    q.rank(wrong < 0 ? wrong : 8, 0, BAD);
                    q.select(0, wrong, BAD);
                    q.below(0, wrong, 8, BAD);
                    q.below(0, length, wrong < 0 ? wrong : 9, BAD);
                    q.ordered(wrong, length, 0, BAD);
                    q.ordered(0, length, wrong, BAD);
                    q.most(wrong, wrong, BAD);
                    q.agree(wrong < 0 ? wrong : 7, false);
                }
                q.holds(Probe.letters(length));
            }
        });
        Probe.sentence("6 to 11, 15: a question that is answered changes nothing", p -> {
            for (int length : SOME_LENGTHS) {
                Probe q = p.filled(length);
                q.at(length - 1, Probe.letters(length)[length - 1]);
                q.rank(6, 0, 0);
                q.select(7, 0, 0);
                q.below(0, length, 8, length);
                q.ordered(0, 1, 0, 7);
                q.most(0, 1, 7);
                q.agree(6, true);
                q.holds(Probe.letters(length));
            }
        });
    }

    public static void main(String[] args) {
        terms();
        promise6();
        promise7();
        promise8();
        promise9();
        promise10();
        promise11();
        promise15();
        unchanged();
        Probe.end();
    }
}
