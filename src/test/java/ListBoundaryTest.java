/**
 * The boundary cases of the calls that change the list, promises 1 to 5 and 17: each sentence of the
 * document that names one has its own test here, under its own words.
 */
public final class ListBoundaryTest {
    private static final int BAD = Probe.BAD;
    private static final int FULL = Probe.FULL;
    private static final int MIN = Probe.MIN;
    private static final int MAX = Probe.MAX;
    private static final int CAPACITY = Probe.CAPACITY;
    private static final int[] NO_LETTERS = Probe.outside(0, 7);
    private static final int[] NO_COUNTS = Probe.outside(1, CAPACITY);
    private static final int[] NO_CUTS = Probe.outside(0, CAPACITY);

    private static void terms() {
        Probe.sentence("What it is: An object is used for at most 512 calls (the 512th still answers)", p -> {
            for (int call = 1; call <= 170; call++) {
                p.append(call % 8, 1, 1);
                p.at(0, call % 8);
                p.cut(1, 0);
            }
            p.append(6, 200, 200);
            p.select(6, 199, 199);
            Probe late = p.fresh();
            for (int call = 1; call <= 511; call++) {
                late.append(8, 1, BAD);
            }
            late.append(7, 200, 200);
        });
        Probe.sentence("Terms: The LIST has at most 200 letters (one by one by append)", p -> {
            for (int length = 1; length <= CAPACITY; length++) {
                p.append(length % 8, 1, length);
            }
            p.append(0, 1, FULL);
            p.cut(0, CAPACITY);
        });
        Probe.sentence("Terms: The LIST has at most 200 letters (one by one by again)", p -> {
            p.append(3, 1, 1);
            for (int length = 2; length <= CAPACITY; length++) {
                p.again(length - 1, 1, length);
            }
            p.again(CAPACITY, 1, FULL);
            p.holds(Probe.times(3, CAPACITY));
        });
        Probe.sentence("Terms: letters (0 .. 7) (the least and the greatest, at the first and the last place)", p -> {
            p.append(0, 1, 1);
            p.append(7, 198, 199);
            p.append(0, 1, 200);
            p.change(0, 7, 0);
            p.change(199, 7, 0);
            p.change(1, 0, 7);
            p.change(198, 0, 7);
            int[] due = Probe.times(7, CAPACITY);
            due[1] = 0;
            due[198] = 0;
            p.holds(due);
        });
    }

    private static void promise1() {
        Probe.sentence("1: An empty list (no place has a letter)", p -> {
            for (int i : new int[] {0, 1, 199, 200, -1, MIN, MAX}) {
                p.at(i, BAD);
                p.change(i, 0, BAD);
            }
        });
        Probe.sentence("1: An empty list (no letter stands anywhere)", p -> {
            for (int letter = 0; letter < 8; letter++) {
                p.rank(letter, 0, 0);
                p.select(letter, 0, BAD);
                p.next(letter, 0, BAD);
                p.next(letter, MIN, BAD);
            }
        });
        Probe.sentence("1: An empty list (its only range is empty)", p -> {
            p.below(0, 0, 8, 0);
            p.ordered(0, 0, 0, BAD);
            p.most(0, 0, BAD);
            p.different(0, 0, 0);
            p.below(0, 1, 8, BAD);
            p.different(0, 1, BAD);
        });
        Probe.sentence("1: An empty list (length, runs and bits are 0, and the engines agree)", p -> {
            p.runs(0);
            p.bits(0);
            for (int other = 0; other < 7; other++) {
                p.agree(other, true);
            }
            p.cut(0, 0);
        });
        Probe.sentence("1: An empty list (also when another object is full)", p -> {
            p.filled(CAPACITY);
            p.fresh().holds();
        });
    }

    private static void promise2() {
        Probe.sentence("2: Appends n times a letter (the least and the greatest n, the least and the greatest letter)", p -> {
            for (int letter : new int[] {0, 7}) {
                for (int n : new int[] {1, 2, 199, 200}) {
                    Probe q = p.fresh();
                    q.append(letter, n, n);
                    q.holds(Probe.times(letter, n));
                }
            }
        });
        Probe.sentence("2: BAD when letter is not 0 .. 7", p -> {
            for (int length : Probe.lengths()) {
                for (int letter : NO_LETTERS) {
                    Probe q = p.filled(length);
                    q.append(letter, 1, BAD);
                    q.append(letter, 200, BAD);
                    q.holds(Probe.letters(length));
                }
            }
        });
        Probe.sentence("2: BAD when n is not 1 .. 200", p -> {
            for (int length : Probe.lengths()) {
                for (int n : NO_COUNTS) {
                    Probe q = p.filled(length);
                    q.append(0, n, BAD);
                    q.append(7, n, BAD);
                    q.holds(Probe.letters(length));
                }
            }
        });
        Probe.sentence("2: FULL when the list would be longer than 200 (201 is, for every length)", p -> {
            for (int length = 1; length <= CAPACITY; length++) {
                Probe q = p.filled(length);
                q.append(7, CAPACITY + 1 - length, FULL);
                q.append(0, CAPACITY, FULL);
                q.cut(0, length);
            }
        });
        Probe.sentence("2: FULL when the list would be longer than 200 (200 is not, for every length)", p -> {
            for (int length = 0; length < CAPACITY; length++) {
                Probe q = p.filled(length);
                q.append(7, CAPACITY - length, CAPACITY);
                q.at(CAPACITY - 1, 7);
                q.at(CAPACITY, BAD);
                q.append(7, 1, FULL);
            }
        });
        Probe.sentence("2: FULL, changing nothing", p -> {
            for (int length : new int[] {1, 2, 8, 199, 200}) {
                Probe q = p.filled(length);
                q.append(6, CAPACITY + 1 - length, FULL);
                q.append(6, CAPACITY, FULL);
                q.holds(Probe.letters(length));
            }
        });
        Probe.sentence("2: FULL, changing nothing (what fits is appended after it as if it had not been)", p -> {
            Probe q = p.filled(150);
            q.append(6, 51, FULL);
            q.append(2, 49, 199);
            q.holds(Probe.join(Probe.letters(150), Probe.times(2, 49)));
        });
        Probe.sentence("2: tested in this order (a wrong letter in a full list is BAD)", p -> {
            for (int letter : NO_LETTERS) {
                Probe q = p.filled(CAPACITY);
                q.append(letter, 1, BAD);
                q.append(letter, 200, BAD);
                q.append(letter, 201, BAD);
                q.append(letter, 0, BAD);
            }
        });
        Probe.sentence("2: tested in this order (a wrong n in a full list is BAD)", p -> {
            for (int n : NO_COUNTS) {
                p.filled(CAPACITY).append(0, n, BAD);
                p.filled(CAPACITY).append(8, n, BAD);
            }
        });
        Probe.sentence("2: tested in this order (201 letters are BAD, though too long as well)", p -> {
            for (int length : Probe.lengths()) {
                p.filled(length).append(0, 201, BAD);
                p.filled(length).append(0, MAX, BAD);
            }
        });
    }

    private static void promise3() {
        Probe.sentence("3: each the one that stands back places before it (back is 1)", p -> {
            Probe q = p.fresh(4, 6);
            q.again(1, 1, 3);
            q.again(1, 197, 200);
            q.holds(Probe.join(new int[] {4}, Probe.times(6, 199)));
        });
        Probe.sentence("3: each the one that stands back places before it (back is the length)", p -> {
            for (int length : new int[] {1, 2, 8, 100}) {
                Probe q = p.filled(length);
                q.again(length, length, 2 * length);
                q.holds(Probe.join(Probe.letters(length), Probe.letters(length)));
            }
            Probe late = p.fresh(Probe.join(new int[] {5}, Probe.times(1, 198)));
            late.again(199, 1, 200);
            late.at(199, 5);
        });
        Probe.sentence("3: each the one that stands back places before it (new letters too, when n is above back)", p -> {
            Probe q = p.fresh(7, 0, 3);
            q.again(2, 3, 6);
            q.again(3, 4, 10);
            q.holds(7, 0, 3, 0, 3, 0, 0, 3, 0, 0);
            Probe whole = p.fresh(1, 2);
            whole.again(2, 198, 200);
            whole.at(198, 1);
            whole.at(199, 2);
        });
        Probe.sentence("3: BAD when back is not from 1 to the length", p -> {
            for (int length : new int[] {1, 2, 8, 150, 199, 200}) {
                for (int back : Probe.outside(1, length)) {
                    Probe q = p.filled(length);
                    q.again(back, 1, BAD);
                    q.again(back, 200, BAD);
                    q.holds(Probe.letters(length));
                }
            }
        });
        Probe.sentence("3: BAD when back is not from 1 to the length (an empty list has no back)", p -> {
            for (int back : new int[] {1, 0, -1, 2, 199, 200, 201, MIN, MAX}) {
                Probe q = p.fresh();
                q.again(back, 1, BAD);
                q.again(back, 200, BAD);
                q.holds();
            }
        });
        Probe.sentence("3: BAD when back is not from 1 to the length (letters that were cut are out of it)", p -> {
            Probe q = p.filled(50);
            q.cut(20, 30);
            q.again(31, 1, BAD);
            q.again(50, 1, BAD);
            q.again(30, 1, 31);
            q.holds(Probe.join(Probe.letters(30), 7));
            Probe none = p.filled(50);
            none.cut(50, 0);
            none.again(1, 1, BAD);
        });
        Probe.sentence("3: BAD when n is not 1 .. 200", p -> {
            for (int length : new int[] {1, 2, 8, 199, 200}) {
                for (int n : NO_COUNTS) {
                    Probe q = p.filled(length);
                    q.again(1, n, BAD);
                    q.again(length, n, BAD);
                    q.holds(Probe.letters(length));
                }
            }
        });
        Probe.sentence("3: FULL as in append (201 letters are too long, for every length)", p -> {
            for (int length = 1; length <= CAPACITY; length++) {
                Probe q = p.filled(length);
                q.again(1, CAPACITY + 1 - length, FULL);
                q.again(length, CAPACITY, FULL);
                q.cut(0, length);
            }
        });
        Probe.sentence("3: FULL as in append (200 letters are not, for every length)", p -> {
            for (int length = 1; length < CAPACITY; length++) {
                Probe q = p.filled(length);
                q.again(length, CAPACITY - length, CAPACITY);
                q.at(length, 7);
                q.at(CAPACITY - 1, Probe.letters(length)[(CAPACITY - 1) % length]);
                q.at(CAPACITY, BAD);
                q.again(1, 1, FULL);
            }
        });
        Probe.sentence("3: FULL as in append (changing nothing)", p -> {
            for (int length : new int[] {1, 2, 8, 199, 200}) {
                Probe q = p.filled(length);
                q.again(1, CAPACITY + 1 - length, FULL);
                q.again(length, CAPACITY, FULL);
                q.holds(Probe.letters(length));
            }
        });
        Probe.sentence("3: the greatest n (199 after one letter, since no list has room for 200 more)", p -> {
            Probe q = p.fresh(5);
            q.again(1, 200, FULL);
            q.again(1, 199, 200);
            q.holds(Probe.times(5, 200));
        });
    }

    private static void promise4() {
        Probe.sentence("4: Changes the letter at a place and answers the one that was there (the first and the last place)", p -> {
            for (int length : new int[] {1, 2, 8, 199, 200}) {
                int[] letters = Probe.letters(length);
                for (int i : new int[] {0, length - 1}) {
                    for (int letter : new int[] {0, 7}) {
                        Probe q = p.filled(length);
                        q.change(i, letter, letters[i]);
                        q.holds(Probe.with(letters, i, letter));
                    }
                }
            }
        });
        Probe.sentence("4: Changes the letter at a place (also to the one that is there)", p -> {
            Probe q = p.filled(8);
            q.change(0, 7, 7);
            q.change(7, 4, 4);
            q.holds(Probe.letters(8));
        });
        Probe.sentence("4: BAD, changing nothing, when there is none", p -> {
            for (int length : new int[] {1, 2, 8, 199, 200}) {
                for (int i : Probe.outside(0, length - 1)) {
                    Probe q = p.filled(length);
                    q.change(i, 0, BAD);
                    q.change(i, 7, BAD);
                    q.holds(Probe.letters(length));
                }
            }
        });
        Probe.sentence("4: BAD, changing nothing, when there is none (the list is empty)", p -> {
            for (int i : new int[] {0, 1, -1, 199, 200, MIN, MAX}) {
                Probe q = p.fresh();
                q.change(i, 0, BAD);
                q.holds();
            }
        });
        Probe.sentence("4: BAD, changing nothing, when there is none (it was cut away)", p -> {
            Probe q = p.filled(8);
            q.cut(3, 5);
            q.change(5, 1, BAD);
            q.change(7, 1, BAD);
            q.again(5, 3, 8);
            q.holds(7, 0, 5, 5, 2, 7, 0, 5);
        });
        Probe.sentence("4: BAD, changing nothing, when letter is not 0 .. 7", p -> {
            for (int length : new int[] {1, 2, 8, 199, 200}) {
                for (int letter : NO_LETTERS) {
                    Probe q = p.filled(length);
                    q.change(0, letter, BAD);
                    q.change(length - 1, letter, BAD);
                    q.change(length, letter, BAD);
                    q.change(-1, letter, BAD);
                    q.holds(Probe.letters(length));
                }
            }
        });
    }

    private static void promise5() {
        Probe.sentence("5: Takes the last n letters away (n is 0)", p -> {
            for (int length : Probe.lengths()) {
                Probe q = p.filled(length);
                q.cut(0, length);
                q.holds(Probe.letters(length));
            }
        });
        Probe.sentence("5: Takes the last n letters away (all but one, and just one)", p -> {
            for (int length : new int[] {2, 8, 199, 200}) {
                Probe q = p.filled(length);
                q.cut(length - 1, 1);
                q.holds(7);
                Probe r = p.filled(length);
                r.cut(1, length - 1);
                r.holds(Probe.letters(length - 1));
            }
        });
        Probe.sentence("5: Takes the last n letters away (n is the length)", p -> {
            for (int length : new int[] {1, 2, 8, 199, 200}) {
                Probe q = p.filled(length);
                q.cut(length, 0);
                q.holds();
            }
        });
        Probe.sentence("5: or all, if there are less", p -> {
            for (int length : new int[] {0, 1, 2, 8, 199}) {
                for (int n : new int[] {length + 1, 200}) {
                    Probe q = p.filled(length);
                    q.cut(n, 0);
                    q.holds();
                }
            }
        });
        Probe.sentence("5: or all, if there are less (then the list can be filled anew)", p -> {
            Probe q = p.filled(199);
            q.cut(200, 0);
            q.append(4, 200, 200);
            q.holds(Probe.times(4, 200));
        });
        Probe.sentence("5: Takes the last n letters away (a full list has room again for just as many)", p -> {
            Probe q = p.filled(200);
            q.cut(3, 197);
            q.append(6, 4, FULL);
            q.append(6, 3, 200);
            q.append(6, 1, FULL);
            q.holds(Probe.join(Probe.letters(197), 6, 6, 6));
        });
        Probe.sentence("5: BAD when n is not 0 .. 200", p -> {
            for (int length : Probe.lengths()) {
                for (int n : NO_CUTS) {
                    Probe q = p.filled(length);
                    q.cut(n, BAD);
                    q.holds(Probe.letters(length));
                }
            }
        });
    }

    private static void promise17() {
        Probe.sentence("17: append tests BAD before FULL", p -> {
            for (int length : new int[] {1, 100, 199, 200}) {
                Probe q = p.filled(length);
                q.append(8, 200, BAD);
                q.append(-1, 200, BAD);
                q.append(MIN, 200, BAD);
                q.append(MAX, 200, BAD);
                q.append(0, 201, BAD);
                q.append(0, MAX, BAD);
                q.append(0, 200, FULL);
            }
            Probe full = p.filled(200);
            full.append(0, 0, BAD);
            full.append(0, -1, BAD);
            full.append(0, MIN, BAD);
            full.append(0, 1, FULL);
        });
        Probe.sentence("17: again tests BAD before FULL", p -> {
            for (int length : new int[] {1, 100, 199, 200}) {
                Probe q = p.filled(length);
                q.again(0, 200, BAD);
                q.again(length + 1, 200, BAD);
                q.again(MIN, 200, BAD);
                q.again(MAX, 200, BAD);
                q.again(1, 201, BAD);
                q.again(1, MAX, BAD);
                q.again(length, 200, FULL);
            }
            Probe full = p.filled(200);
            full.again(1, 0, BAD);
            full.again(1, -1, BAD);
            full.again(200, MIN, BAD);
            full.again(201, 0, BAD);
            full.again(200, 1, FULL);
        });
        Probe.sentence("17: append changes nothing when it answers BAD", p -> {
            for (int length : Probe.lengths()) {
                Probe q = p.filled(length);
                q.append(8, 1, BAD);
                q.append(-1, 1, BAD);
                q.append(0, 0, BAD);
                q.append(0, 201, BAD);
                q.holds(Probe.letters(length));
            }
        });
        Probe.sentence("17: again changes nothing when it answers BAD", p -> {
            for (int length : Probe.lengths()) {
                Probe q = p.filled(length);
                q.again(0, 1, BAD);
                q.again(length + 1, 1, BAD);
                q.again(1, 0, BAD);
                q.again(1, 201, BAD);
                q.holds(Probe.letters(length));
            }
        });
        Probe.sentence("17: cut changes nothing when it answers BAD", p -> {
            for (int length : Probe.lengths()) {
                Probe q = p.filled(length);
                q.cut(-1, BAD);
                q.cut(201, BAD);
                q.cut(MIN, BAD);
                q.cut(MAX, BAD);
                q.holds(Probe.letters(length));
            }
        });
    }

    public static void main(String[] args) {
        terms();
        promise1();
        promise2();
        promise3();
        promise4();
        promise5();
        promise17();
        Probe.end();
    }
}
