/**
 * The boundary cases of the questions without an engine, promises 12 to 14 and 16: each sentence of
 * the document that names one has its own test here, under its own words.
 */
public final class QuestionBoundaryTest {
    private static final int BAD = Probe.BAD;
    private static final int MIN = Probe.MIN;
    private static final int MAX = Probe.MAX;

    private static void promise12() {
        Probe.sentence("12: The number of different letters in a range (1, the least of one that is not empty)", p -> {
            Probe q = p.filled(200);
            for (int i = 0; i < 200; i++) {
                q.different(i, i + 1, 1);
            }
            for (int letter : new int[] {0, 7}) {
                p.fresh(Probe.times(letter, 200)).different(0, 200, 1);
            }
        });
        Probe.sentence("12: The number of different letters in a range (8, the greatest)", p -> {
            Probe q = p.fresh(7, 6, 5, 4, 3, 2, 1, 0);
            q.different(0, 8, 8);
            q.different(0, 7, 7);
            q.different(1, 8, 7);
            p.filled(200).different(0, 200, 8);
        });
        Probe.sentence("12: The number of different letters in a range (its first and last place are in it, the next is not)", p -> {
            Probe q = p.fresh(1, 2, 2, 3);
            q.different(0, 3, 2);
            q.different(1, 3, 1);
            q.different(1, 4, 2);
            q.different(0, 4, 3);
        });
        Probe.sentence("12: BAD when there is no such range", p -> {
            for (int length : Probe.lengths()) {
                Probe q = p.filled(length);
                for (int[] range : Probe.noRanges(length)) {
                    q.different(range[0], range[1], BAD);
                }
            }
        });
        Probe.sentence("12: BAD when there is no such range (it was cut away)", p -> {
            Probe q = p.fresh(Probe.join(Probe.times(0, 199), 7));
            q.cut(1, 199);
            q.different(0, 200, BAD);
            q.different(199, 200, BAD);
            q.different(200, 200, BAD);
            q.different(0, 199, 1);
        });
        Probe.sentence("17: different answers 0 for an empty range", p -> {
            for (int length : Probe.lengths()) {
                Probe q = p.filled(length);
                for (int i = 0; i <= length; i++) {
                    q.different(i, i, 0);
                }
            }
        });
    }

    private static void promise13() {
        Probe.sentence("13: The least place from i on (i itself is one)", p -> {
            int[] letters = Probe.letters(200);
            Probe q = p.filled(200);
            for (int i = 0; i < 200; i++) {
                q.next(letters[i], i, i);
            }
        });
        Probe.sentence("13: The least place from i on (the place before i is none)", p -> {
            Probe q = p.fresh(7, 0, 7, 0);
            q.next(7, 1, 2);
            q.next(0, 2, 3);
            q.next(7, 3, BAD);
        });
        Probe.sentence("13: from i on (which may be any int) (below 0: from the first place on)", p -> {
            for (int length : new int[] {1, 2, 8, 199, 200}) {
                Probe q = p.filled(length);
                for (int i : new int[] {0, -1, -2, -199, -200, -201, -256, -65536, MIN, MIN + 1, MIN + 200}) {
                    q.next(7, i, 0);
                    q.next(Probe.letters(length)[length / 2], i, firstOf(length));
                }
            }
            Probe last = p.fresh(Probe.join(Probe.times(1, 199), 6));
            for (int i : new int[] {MIN, -1, 0, 198, 199}) {
                last.next(6, i, 199);
            }
        });
        Probe.sentence("13: from i on (which may be any int) (the length and above: BAD)", p -> {
            for (int length : new int[] {1, 2, 8, 199, 200}) {
                Probe q = p.filled(length);
                for (int letter = 0; letter < 8; letter++) {
                    for (int i : new int[] {length, length + 1, 256, 65536, MAX - 1, MAX}) {
                        q.next(letter, i, BAD);
                    }
                }
            }
        });
        Probe.sentence("13: BAD when there is none (the list is empty)", p -> {
            for (int letter = 0; letter < 8; letter++) {
                for (int i : new int[] {0, 1, -1, 199, 200, MIN, MAX}) {
                    p.next(letter, i, BAD);
                }
            }
        });
        Probe.sentence("13: BAD when there is none (the letter stands before i alone, or nowhere)", p -> {
            Probe q = p.fresh(Probe.join(new int[] {0}, Probe.times(5, 199)));
            q.next(0, 1, BAD);
            q.next(0, 199, BAD);
            for (int letter : new int[] {1, 4, 6, 7}) {
                q.next(letter, 0, BAD);
                q.next(letter, MIN, BAD);
            }
        });
        Probe.sentence("13: BAD when there is none (it was cut away or changed)", p -> {
            Probe q = p.fresh(1, 1, 2, 3);
            q.cut(1, 3);
            q.next(3, 0, BAD);
            q.change(2, 0, 2);
            q.next(2, 0, BAD);
            q.next(0, 0, 2);
        });
        Probe.sentence("13: BAD when no such letter", p -> {
            for (int length : Probe.lengths()) {
                Probe q = p.filled(length);
                for (int letter : Probe.outside(0, 7)) {
                    for (int i : new int[] {0, length - 1, length, -1, MIN, MAX}) {
                        q.next(letter, i, BAD);
                    }
                }
            }
        });
    }

    private static int firstOf(int length) {
        int[] letters = Probe.letters(length);
        int first = 0;
        while (letters[first] != letters[length / 2]) {
            first++;
        }
        return first;
    }

    private static void promise14() {
        Probe.sentence("14: and 1 when the list is not empty (an empty list has 0, a list of one letter 1)", p -> {
            p.runs(0);
            for (int letter = 0; letter < 8; letter++) {
                p.fresh(letter).runs(1);
            }
        });
        Probe.sentence("14: and 1 when the list is not empty (0 again when all is cut)", p -> {
            Probe q = p.filled(200);
            q.cut(199, 1);
            q.runs(1);
            q.cut(1, 0);
            q.runs(0);
            q.cut(0, 0);
            q.runs(0);
            q.append(0, 1, 1);
            q.runs(1);
        });
        Probe.sentence("14: places whose letter is not that of place i - 1 (none in a full list of one letter)", p -> {
            p.fresh(Probe.times(0, 200)).runs(1);
            p.fresh(Probe.times(7, 200)).runs(1);
        });
        Probe.sentence("14: places whose letter is not that of place i - 1 (all 199 of a full list)", p -> {
            Probe q = p.fresh(0, 7);
            q.again(2, 198, 200);
            q.runs(200);
        });
        Probe.sentence("14: places whose letter is not that of place i - 1 (the last place, and place 1)", p -> {
            p.fresh(Probe.join(Probe.times(4, 199), 3)).runs(2);
            p.fresh(Probe.join(new int[] {4}, Probe.times(3, 199))).runs(2);
            p.fresh(Probe.times(4, 199)).runs(1);
        });
        Probe.sentence("14: The number of places i above 0 (the first and the last place are no neighbours)", p -> {
            p.fresh(1, 2, 1).runs(3);
            p.fresh(1, 1, 2).runs(2);
            p.fresh(2, 1, 1).runs(2);
        });
        Probe.sentence("14: runs after a refused call are those before it", p -> {
            Probe q = p.fresh(Probe.times(5, 200));
            q.append(1, 1, Probe.FULL);
            q.again(1, 1, Probe.FULL);
            q.change(200, 1, BAD);
            q.change(0, 8, BAD);
            q.cut(201, BAD);
            q.runs(1);
        });
    }

    private static void promise16() {
        Probe.sentence("16: 0 when the list is empty", p -> {
            p.bits(0);
            Probe q = p.filled(200);
            q.cut(200, 0);
            q.bits(0);
        });
        Probe.sentence("16: and has at least one bit (a list of one letter alone)", p -> {
            for (int letter = 0; letter < 8; letter++) {
                for (int n : new int[] {1, 2, 199, 200}) {
                    p.fresh(Probe.times(letter, n)).bits(n);
                }
            }
        });
        Probe.sentence("16: and has at least one bit (also when all others have been cut or changed)", p -> {
            Probe q = p.fresh(3, 3, 4, 5);
            q.cut(2, 2);
            q.bits(2);
            Probe r = p.fresh(3, 4);
            r.change(1, 3, 4);
            r.bits(2);
        });
        Probe.sentence("16: The least number of bits (two letters, one bit each, however uneven)", p -> {
            p.fresh(0, 7).bits(2);
            p.fresh(Probe.join(Probe.times(0, 199), 7)).bits(200);
            p.fresh(Probe.join(Probe.times(0, 100), Probe.times(7, 100))).bits(200);
        });
        Probe.sentence("16: none of which begins with another one (three letters need a second bit)", p -> {
            p.fresh(0, 3, 7).bits(5);
            p.fresh(Probe.join(Probe.times(6, 198), 0, 7)).bits(202);
        });
        Probe.sentence("16: every letter that stands in it (four to eight letters, each once)", p -> {
            p.fresh(0, 1, 2, 3).bits(8);
            p.fresh(0, 1, 2, 3, 4).bits(12);
            p.fresh(0, 1, 2, 3, 4, 5).bits(16);
            p.fresh(0, 1, 2, 3, 4, 5, 6).bits(20);
            p.fresh(0, 1, 2, 3, 4, 5, 6, 7).bits(24);
        });
        Probe.sentence("16: The least number of bits (the most a list can need: 600)", p -> {
            Probe q = p.fresh(0, 1, 2, 3, 4, 5, 6, 7);
            q.again(8, 192, 200);
            q.bits(600);
        });
        Probe.sentence("16: The least number of bits (words of seven bits, the longest)", p -> {
            int[] counts = {1, 1, 2, 3, 5, 8, 13, 167};
            Probe rising = p.fresh();
            Probe falling = p.fresh();
            int length = 0;
            for (int letter = 0; letter < 8; letter++) {
                length += counts[letter];
                rising.append(letter, counts[letter], length);
                falling.append(7 - letter, counts[letter], length);
            }
            rising.bits(278);
            falling.bits(278);
        });
        Probe.sentence("16: The least number of bits (joined groups as heavy as a letter)", p -> {
            p.fresh(0, 1, 2, 2).bits(6);
            p.fresh(0, 1, 2, 2, 3, 3).bits(12);
            p.fresh(0, 1, 2, 2, 3, 3, 3, 3).bits(14);
        });
        Probe.sentence("16: bits after a refused call are those before it", p -> {
            Probe q = p.fresh(Probe.times(5, 200));
            q.append(1, 1, Probe.FULL);
            q.again(1, 1, Probe.FULL);
            q.change(200, 1, BAD);
            q.change(0, 8, BAD);
            q.cut(201, BAD);
            q.bits(200);
        });
    }

    private static void unchanged() {
        Probe.sentence("12 to 14, 16: a question, answered or refused, changes nothing", p -> {
            for (int length : new int[] {1, 2, 199, 200}) {
                Probe q = p.filled(length);
                q.different(0, 1, 1);
                q.different(0, length + 1, BAD);
                q.different(MIN, MAX, BAD);
                q.next(7, MIN, 0);
                q.next(7, MAX, BAD);
                q.next(8, 0, BAD);
                q.holds(Probe.letters(length));
            }
            Probe alone = p.fresh(2, 2, 2);
            for (int time = 0; time < 3; time++) {
                alone.runs(1);
                alone.bits(3);
            }
            alone.holds(2, 2, 2);
        });
    }

    public static void main(String[] args) {
        promise12();
        promise13();
        promise14();
        promise16();
        unchanged();
        Probe.end();
    }
}
