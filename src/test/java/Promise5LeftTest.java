/** Promise 5: left answers the vector that the latest valid code call stored, and changes nothing. */
public final class Promise5LeftTest {
    private static final Answers answers = new Answers();

    public static void main(String[] args) {
        answers.test("0 if no code call has happened since construction", Promise5LeftTest::answersZeroAtFirst);
        answers.test("0 if every code call was refused", Promise5LeftTest::answersZeroAfterRefusedCalls);
        answers.test("otherwise the s of the latest code call, whatever its column",
            Promise5LeftTest::answersTheLatest);
        answers.test("also when the last coded column was 7", Promise5LeftTest::answersAfterColumnSeven);
        answers.test("a refused call does not count as the latest", Promise5LeftTest::passesOverRefusedCalls);
        answers.test("the answer lies in -32768 to 32767, the ends among them", Promise5LeftTest::answersTheRangeEnds);
        answers.test("left() answers the stored value even where predict(0) uses 0",
            Promise5LeftTest::answersWherePredictUsesZero);
        answers.test("left changes nothing", Promise5LeftTest::changesNothing);
        answers.finish();
    }

    private static void answersZeroAtFirst() {
        MvMedian x = new MvMedian();
        answers.due("new object: left()", x.left(), 0);
        x.predict(3);
        x.top(3);
        answers.due("without a code call: left()", x.left(), 0);
    }

    private static void answersZeroAfterRefusedCalls() {
        MvMedian x = new MvMedian();
        for (int col : Answers.WRONG_COLUMNS) {
            x.code(col, 5);
            answers.due("after code(" + col + ", 5) alone: left()", x.left(), 0);
        }
    }

    private static void answersTheLatest() {
        MvMedian x = new MvMedian();
        int[] order = {7, 0, 7, 3, 3, 6, 1, 0, 5, 4, 2, 7};
        for (int call = 0; call < order.length; call++) {
            int mv = 60 - 10 * call;
            x.code(order[call], mv);
            answers.due("after code(" + order[call] + ", " + mv + "): left()", x.left(), mv);
        }
    }

    private static void answersAfterColumnSeven() {
        MvMedian x = Answers.withRow(1, 2, 3, 4, 5, 6, 7, 88);
        answers.due("after code(7, 88): left()", x.left(), 88);
        answers.due("left() again", x.left(), 88);
        MvMedian alone = new MvMedian();
        alone.code(7, -5);
        answers.due("after code(7, -5) alone: left()", alone.left(), -5);
    }

    private static void passesOverRefusedCalls() {
        MvMedian x = Answers.withRow(1, 2, 3);
        for (int col : Answers.WRONG_COLUMNS) {
            x.code(col, 99);
            x.predict(col);
            x.top(col);
            answers.due("after calls with column " + col + ": left()", x.left(), 3);
        }
    }

    private static void answersTheRangeEnds() {
        int[] vectors = {32767, -32768, 32768, -32769, 65535, 65536, Integer.MAX_VALUE, Integer.MIN_VALUE};
        int[] want = {32767, -32768, -32768, 32767, -1, 0, -1, 0};
        MvMedian x = new MvMedian();
        for (int i = 0; i < vectors.length; i++) {
            x.code(i, vectors[i]);
            answers.due("after code of " + vectors[i] + ": left()", x.left(), want[i]);
        }
    }

    private static void answersWherePredictUsesZero() {
        MvMedian x = new MvMedian();
        x.code(0, 4);
        x.code(7, 9);
        answers.due("predict(0) of 0, 4, 0", x.predict(0), 0);
        answers.due("left() after predict(0)", x.left(), 9);
        x.code(0, 6);
        answers.due("left() after code(0, 6)", x.left(), 6);
        answers.due("predict(0) of 0, 6, 0", x.predict(0), 0);
        answers.due("left() again", x.left(), 6);
    }

    private static void changesNothing() {
        int[] row = {1, -2, 3, -4, 5, -6, 7, -8};
        MvMedian x = Answers.withRow(row);
        for (int call = 0; call < 5; call++) {
            x.left();
            answers.dueState("after left() number " + call, x, row, -8);
        }
    }
}
