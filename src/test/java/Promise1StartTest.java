/** Promise 1: a new object holds zeros, and each object has its own state. */
public final class Promise1StartTest {
    private static final Answers answers = new Answers();

    public static void main(String[] args) {
        answers.test("all 8 row cells (columns 0 to 7) hold 0", Promise1StartTest::rowStartsWithZeros);
        answers.test("the left vector holds 0", Promise1StartTest::leftStartsWithZero);
        answers.test("right after construction predict(col) answers 0 for every col from 0 to 7",
            Promise1StartTest::predictStartsWithZero);
        answers.test("the row has no column below 0 and none above 7", Promise1StartTest::rowEndsAtItsColumns);
        answers.test("a new object starts so too after others were used", Promise1StartTest::startsAfterOthers);
        answers.test("each object has its own state; calls on one object never change another",
            Promise1StartTest::keepsItsOwnState);
        answers.finish();
    }

    private static void rowStartsWithZeros() {
        for (int col = 0; col < 8; col++) {
            answers.due("new object: top(" + col + ")", new MvMedian().top(col), 0);
        }
    }

    private static void leftStartsWithZero() {
        answers.due("new object: left()", new MvMedian().left(), 0);
    }

    private static void predictStartsWithZero() {
        for (int col = 0; col < 8; col++) {
            answers.due("new object: predict(" + col + ")", new MvMedian().predict(col), 0);
        }
    }

    private static void rowEndsAtItsColumns() {
        answers.due("new object: top(-1)", new MvMedian().top(-1), Answers.REFUSED);
        answers.due("new object: top(8)", new MvMedian().top(8), Answers.REFUSED);
    }

    private static void startsAfterOthers() {
        Answers.withRow(1, 2, 3, 4, 5, 6, 7, 8);
        answers.dueState("new object after another was coded", new MvMedian(), new int[8], 0);
    }

    private static void keepsItsOwnState() {
        MvMedian one = new MvMedian();
        MvMedian other = new MvMedian();
        for (int col = 0; col < 8; col++) {
            one.code(col, 100 + col);
        }
        answers.dueState("untouched object", other, new int[8], 0);
        other.code(3, -9);
        answers.dueState("one", one, new int[] {100, 101, 102, 103, 104, 105, 106, 107}, 107);
        answers.dueState("other", other, new int[] {0, 0, 0, -9, 0, 0, 0, 0}, -9);
        one.code(3, 5);
        answers.dueState("other later", other, new int[] {0, 0, 0, -9, 0, 0, 0, 0}, -9);
    }
}
