/** The example of README.md, call by call: whoever changes the one changes the other too. */
public final class ReadmeTest {
    private static int wrong = 0;

    private static void due(String call, int got, int want) {
        if (got != want) {
            wrong++;
            System.out.println(call + " answered " + got + ", README.md says " + want);
        }
    }

    private static void due(String call, boolean got, boolean want) {
        if (got != want) {
            wrong++;
            System.out.println(call + " answered " + got + ", README.md says " + want);
        }
    }

    public static void main(String[] args) {
        SuccinctSuite x = new SuccinctSuite();
        due("append(3, 2)", x.append(3, 2), 2);
        due("append(0, 1)", x.append(0, 1), 3);
        due("again(3, 3)", x.again(3, 3), 6);
        due("at(1, 2)", x.at(1, 2), 0);
        due("rank(2, 3, 4)", x.rank(2, 3, 4), 3);
        due("select(4, 0, 1)", x.select(4, 0, 1), 5);
        due("below(5, 0, 6, 3)", x.below(5, 0, 6, 3), 2);
        due("ordered(6, 0, 6, 2)", x.ordered(6, 0, 6, 2), 3);
        due("most(0, 0, 6)", x.most(0, 0, 6), 3);
        due("different(0, 6)", x.different(0, 6), 2);
        due("next(0, 3)", x.next(0, 3), 5);
        due("runs()", x.runs(), 4);
        due("bits()", x.bits(), 6);
        due("agree(0, 6)", x.agree(0, 6), true);
        due("change(0, 7)", x.change(0, 7), 3);
        due("cut(4)", x.cut(4), 2);
        due("at(0, 2)", x.at(0, 2), SuccinctSuite.BAD);
        due("append(8, 1)", x.append(8, 1), SuccinctSuite.BAD);
        due("append(1, 199)", x.append(1, 199), SuccinctSuite.FULL);
        due("agree(0, 7)", x.agree(0, 7), false);
        System.out.println(wrong == 0 ? "the example holds" : wrong + " calls of the example answer otherwise");
        if (wrong != 0) {
            System.exit(1);
        }
    }
}
