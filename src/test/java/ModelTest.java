import java.util.ArrayList;
import java.util.Collections;
import java.util.List;
import java.util.Random;

/**
 * Runs of calls, drawn with fixed seeds, on an object and on a plain model of the document side
 * by side. The model counts one by one and tries all lengths of words, so it shares no way of
 * working with the class.
 */
public final class ModelTest {
    private static final int BAD = -1;
    private static final int FULL = -2;
    private static final int CALLS = 512;
    private static final int RUNS = 1500;
    private static int wrong = 0;

    private SuccinctSuite x = new SuccinctSuite();
    private final List<Integer> list = new ArrayList<>();
    private final Random random;
    private final int run;
    private int calls = 0;

    private ModelTest(int run) {
        this.run = run;
        this.random = new Random(run);
    }

    private void due(String call, long got, long want) {
        calls++;
        if (got != want) {
            wrong++;
            if (wrong <= 50) {
                System.out.println("run " + run + ", call " + calls + ": " + call + " answered " + got + ", due is " + want + ", list " + list);
            }
        }
    }

    // ---- the model ----

    private int append(int letter, int n) {
        if (letter < 0 || letter > 7 || n < 1 || n > 200) return BAD;
        if (list.size() + n > 200) return FULL;
        for (int step = 0; step < n; step++) list.add(letter);
        return list.size();
    }

    private int again(int back, int n) {
        if (back < 1 || back > list.size() || n < 1 || n > 200) return BAD;
        if (list.size() + n > 200) return FULL;
        for (int step = 0; step < n; step++) list.add(list.get(list.size() - back));
        return list.size();
    }

    private int change(int i, int letter) {
        if (i < 0 || i >= list.size() || letter < 0 || letter > 7) return BAD;
        return list.set(i, letter);
    }

    private int cut(int n) {
        if (n < 0 || n > 200) return BAD;
        for (int step = 0; step < n && !list.isEmpty(); step++) list.remove(list.size() - 1);
        return list.size();
    }

    private static boolean engine(int engine) {
        return engine >= 0 && engine <= 6;
    }

    private boolean range(int i, int j) {
        return 0 <= i && i <= j && j <= list.size();
    }

    private int at(int engine, int i) {
        return engine(engine) && i >= 0 && i < list.size() ? list.get(i) : BAD;
    }

    private int rank(int engine, int letter, int i) {
        if (!engine(engine) || letter < 0 || letter > 7 || !range(0, i)) return BAD;
        return Collections.frequency(list.subList(0, i), letter);
    }

    private int select(int engine, int letter, int k) {
        if (!engine(engine) || letter < 0 || letter > 7) return BAD;
        int seen = 0;
        for (int i = 0; i < list.size(); i++) {
            if (list.get(i) == letter) {
                if (seen == k) return i;
                seen++;
            }
        }
        return BAD;
    }

    private int below(int engine, int i, int j, int letter) {
        if (!engine(engine) || !range(i, j) || letter < 0 || letter > 8) return BAD;
        return (int) list.subList(i, j).stream().filter(l -> l < letter).count();
    }

    private int ordered(int engine, int i, int j, int k) {
        if (!engine(engine) || !range(i, j) || k < 0 || k >= j - i) return BAD;
        List<Integer> sorted = new ArrayList<>(list.subList(i, j));
        Collections.sort(sorted);
        return sorted.get(k);
    }

    private int most(int engine, int i, int j) {
        if (!engine(engine) || !range(i, j) || i == j) return BAD;
        int best = 0;
        for (int letter = 1; letter < 8; letter++) {
            int count = Collections.frequency(list.subList(i, j), letter);
            if (count > Collections.frequency(list.subList(i, j), best)) best = letter;
        }
        return best;
    }

    private int different(int i, int j) {
        return range(i, j) ? (int) list.subList(i, j).stream().distinct().count() : BAD;
    }

    private int next(int letter, int i) {
        for (int place = 0; place < list.size(); place++) {
            if (place >= i && list.get(place) == letter) return place;
        }
        return BAD;
    }

    private int runs() {
        int count = list.isEmpty() ? 0 : 1;
        for (int i = 1; i < list.size(); i++) {
            if (!list.get(i).equals(list.get(i - 1))) count++;
        }
        return count;
    }

    /** Words of given lengths that begin with no other one exist when the sum of 1/2^length is at most 1. */
    private int bits() {
        List<Integer> counts = new ArrayList<>();
        for (int letter = 0; letter < 8; letter++) {
            int count = Collections.frequency(list, letter);
            if (count > 0) counts.add(count);
        }
        counts.sort(Collections.reverseOrder());
        return leastBits(counts, 0, 1, 256);
    }

    private static int leastBits(List<Integer> counts, int index, int shortest, int room) {
        if (index == counts.size()) return 0;
        int least = 1000000;
        for (int size = shortest; size <= 8; size++) {
            int share = 256 >> size;
            if (share <= room) {
                int rest = leastBits(counts, index + 1, size, room - share);
                least = Math.min(least, counts.get(index) * size + rest);
            }
        }
        return least;
    }

    // ---- arguments, mostly in range, at times just outside or far outside ----

    private int wild(int value) {
        switch (random.nextInt(60)) {
            case 0: return Integer.MIN_VALUE + random.nextInt(3);
            case 1: return Integer.MAX_VALUE - random.nextInt(3);
            case 2: return -1 - random.nextInt(3);
            case 3: return value + 256;
            default: return value;
        }
    }

    private int anyLetter() {
        return wild(random.nextInt(8 + (random.nextInt(20) == 0 ? 2 : 0)));
    }

    private int anyEngine() {
        return wild(random.nextInt(7 + (random.nextInt(20) == 0 ? 2 : 0)));
    }

    private int anyPlace() {
        int over = random.nextInt(8) == 0 ? 3 : 1;
        return wild(random.nextInt(list.size() + over));
    }

    private int anyCount() {
        int[] bounds = {3, 8, 30, 203};
        return wild(random.nextInt(bounds[random.nextInt(bounds.length)]));
    }

    private void changeOnce() {
        int kind = random.nextInt(10);
        if (kind < 4) {
            int letter = anyLetter(), n = anyCount();
            due("append(" + letter + ", " + n + ")", x.append(letter, n), append(letter, n));
        } else if (kind < 7) {
            int back = anyPlace(), n = anyCount();
            due("again(" + back + ", " + n + ")", x.again(back, n), again(back, n));
        } else if (kind < 9) {
            int i = anyPlace(), letter = anyLetter();
            due("change(" + i + ", " + letter + ")", x.change(i, letter), change(i, letter));
        } else {
            int n = anyCount();
            due("cut(" + n + ")", x.cut(n), cut(n));
        }
    }

    private void askEngine() {
        int engine = anyEngine(), i = anyPlace(), j = anyPlace(), letter = anyLetter();
        if (i > j && random.nextInt(10) != 0) {
            int other = i;
            i = j;
            j = other;
        }
        switch (random.nextInt(6)) {
            case 0:
                due("at(" + engine + ", " + i + ")", x.at(engine, i), at(engine, i));
                break;
            case 1:
                due("rank(" + engine + ", " + letter + ", " + i + ")", x.rank(engine, letter, i), rank(engine, letter, i));
                break;
            case 2:
                int k = wild(random.nextInt(1 + Collections.frequency(list, letter)));
                due("select(" + engine + ", " + letter + ", " + k + ")", x.select(engine, letter, k), select(engine, letter, k));
                break;
            case 3:
                int number = wild(random.nextInt(9));
                due("below(" + engine + ", " + i + ", " + j + ", " + number + ")", x.below(engine, i, j, number), below(engine, i, j, number));
                break;
            case 4:
                int nth = wild(random.nextInt(1 + Math.max(0, Math.min(200, j - i))));
                due("ordered(" + engine + ", " + i + ", " + j + ", " + nth + ")", x.ordered(engine, i, j, nth), ordered(engine, i, j, nth));
                break;
            default:
                due("most(" + engine + ", " + i + ", " + j + ")", x.most(engine, i, j), most(engine, i, j));
        }
    }

    private void askList() {
        int i = anyPlace(), j = anyPlace(), letter = anyLetter();
        switch (random.nextInt(5)) {
            case 0:
                due("different(" + i + ", " + j + ")", x.different(i, j), different(i, j));
                break;
            case 1:
                due("next(" + letter + ", " + i + ")", x.next(letter, i), next(letter, i));
                break;
            case 2:
                due("runs()", x.runs(), runs());
                break;
            case 3:
                int engine = anyEngine(), other = anyEngine();
                due("agree(" + engine + ", " + other + ")", x.agree(engine, other) ? 1 : 0, engine(engine) && engine(other) ? 1 : 0);
                break;
            default:
                due("bits()", x.bits(), bits());
        }
    }

    private void play() {
        while (calls < CALLS) {
            int kind = random.nextInt(10);
            if (kind < 3) {
                changeOnce();
            } else if (kind < 8) {
                askEngine();
            } else {
                askList();
            }
        }
    }

    /** Nothing is promised after the last call, so a new object takes over the list before it. */
    private void renewBefore(int more) {
        if (calls + more <= CALLS) return;
        x = new SuccinctSuite();
        calls = 0;
        for (int i = 0; i < list.size(); i++) {
            due("append", x.append(list.get(i), 1), i + 1);
        }
    }

    /** Asks all engines everywhere on one list. */
    private void askEverywhere() {
        for (int n = random.nextInt(201); list.size() < n; ) {
            int letter = random.nextInt(1 + run % 8), size = 1 + random.nextInt(1 + run % 5);
            due("append", x.append(letter, size), append(letter, size));
        }
        for (int engine = 0; engine < 7; engine++) {
            for (int i = 0; i <= list.size(); i++) {
                renewBefore(17);
                due("at(" + engine + ", " + i + ")", x.at(engine, i), at(engine, i));
                for (int letter = 0; letter < 8; letter++) {
                    due("rank(" + engine + ", " + letter + ", " + i + ")", x.rank(engine, letter, i), rank(engine, letter, i));
                    due("select(" + engine + ", " + letter + ", " + i + ")", x.select(engine, letter, i), select(engine, letter, i));
                }
            }
        }
        renewBefore(2);
        due("bits()", x.bits(), bits());
        due("runs()", x.runs(), runs());
    }

    public static void main(String[] args) {
        for (int run = 0; run < RUNS; run++) {
            new ModelTest(run).play();
        }
        for (int run = 0; run < 60; run++) {
            new ModelTest(run).askEverywhere();
        }
        System.out.println(wrong == 0 ? "all answers are as due" : wrong + " answers are not as due");
        if (wrong != 0) {
            System.exit(1);
        }
    }
}
