/** Promise 5: left answers the vector that the latest valid code call stored, and changes nothing. */
public final class Promise5LeftTest {
    private static final Answers answers = new Answers();

    public static void main(String[] args) {
        answersZeroBeforeAnyValidCode();
        answersTheLatestVectorOfAnyColumn();
        answersTheEndsOfTheShortRange();
        keepsItsValueThroughRefusedCalls();
        answersWherePredictUsesZero();
        changesNothing();
        answers.finish();
    }

    private static void answersZeroBeforeAnyValidCode() {
        MvMedian x = new MvMedian();
        answers.due("new object: left()", x.left(), 0);
        for (int col : Answers.WRONG_COLUMNS) {
            x.code(col, 5);
            answers.due("only refused calls: left()", x.left(), 0);
        }
    }

    private static void answersTheLatestVectorOfAnyColumn() {
        MvMedian x = new MvMedian();
        int[] order = {7, 0, 7, 3, 3, 6, 1, 0, 5, 4, 2, 7};
        for (int call = 0; call < order.length; call++) {
            x.code(order[call], 60 - 10 * call);
            answers.due("after code(" + order[call] + "): left()", x.left(), 60 - 10 * call);
        }
    }

    private static void answersTheEndsOfTheShortRange() {
        int[] vectors = {32767, -32768, 32768, -32769, 65535, 65536, Integer.MAX_VALUE, Integer.MIN_VALUE};
        int[] want = {32767, -32768, -32768, 32767, -1, 0, -1, 0};
        MvMedian x = new MvMedian();
        for (int i = 0; i < vectors.length; i++) {
            x.code(i, vectors[i]);
            answers.due("after code of " + vectors[i] + ": left()", x.left(), want[i]);
        }
    }

    private static void keepsItsValueThroughRefusedCalls() {
        MvMedian x = Answers.withRow(1, 2, 3);
        for (int col : Answers.WRONG_COLUMNS) {
            x.code(col, 99);
            x.predict(col);
            x.top(col);
            answers.due("after calls with column " + col + ": left()", x.left(), 3);
        }
    }

    private static void answersWherePredictUsesZero() {
        MvMedian x = new MvMedian();
        x.code(0, 4);
        x.code(7, 9);
        answers.due("predict(0) of 0, 4, 0", x.predict(0), 0);
        answers.due("left() after predict(0)", x.left(), 9);
        x.code(0, 6);
        answers.due("left() after code(0, 6)", x.left(), 6);
        answers.due("predict(0) of 0, 6, 0", x.predict(0), 0);
        answers.due("left() again", x.left(), 6);
    }

    private static void changesNothing() {
        int[] row = {1, -2, 3, -4, 5, -6, 7, -8};
        MvMedian x = Answers.withRow(row);
        for (int call = 0; call < 5; call++) {
            answers.due("left() number " + call, x.left(), -8);
            answers.dueState("after left()", x, row, -8);
        }
    }
}
