/** Promise 2: predict answers the median of three neighbours and changes nothing. */
public final class Promise2PredictTest {
    private static final Answers answers = new Answers();

    public static void main(String[] args) {
        answersTheMedianInEveryOrder();
        answersTheCommonValue();
        answersAtTheEndsOfTheShortRange();
        usesZeroLeftOfColumnZero();
        usesTopLeftAtColumnSeven();
        readsTheRightCellsInEveryColumn();
        refusesWrongColumns();
        changesNothing();
        answers.finish();
    }

    private static void answersTheMedianInEveryOrder() {
        dueMedian(3, 1, 2, 2);
        dueMedian(3, 2, 1, 2);
        dueMedian(1, 2, 3, 2);
        dueMedian(1, 3, 2, 2);
        dueMedian(2, 1, 3, 2);
        dueMedian(2, 3, 1, 2);
        dueMedian(-3, -1, -2, -2);
        dueMedian(-1, 0, 1, 0);
        dueMedian(5, -7, 2, 2);
    }

    private static void answersTheCommonValue() {
        dueMedian(5, 5, 1, 5);
        dueMedian(5, 1, 5, 5);
        dueMedian(1, 5, 5, 5);
        dueMedian(1, 1, 5, 1);
        dueMedian(1, 5, 1, 1);
        dueMedian(5, 1, 1, 1);
        dueMedian(4, 4, 4, 4);
        dueMedian(-4, -4, -4, -4);
    }

    private static void answersAtTheEndsOfTheShortRange() {
        dueMedian(-32768, 32767, 0, 0);
        dueMedian(32767, -32768, -1, -1);
        dueMedian(0, 32767, -32768, 0);
        dueMedian(-32768, -32768, 32767, -32768);
        dueMedian(32767, 32767, -32768, 32767);
        dueMedian(-32768, -32767, 32767, -32767);
        dueMedian(32766, 32767, -32768, 32766);
    }

    /** Sets up the three neighbours of column 3; the left vector comes last, from a column that is not read. */
    private static void dueMedian(int a, int b, int c, int want) {
        MvMedian x = new MvMedian();
        x.code(3, b);
        x.code(4, c);
        x.code(6, a);
        answers.due("predict(3) with " + a + ", " + b + ", " + c, x.predict(3), want);
    }

    private static void usesZeroLeftOfColumnZero() {
        MvMedian x = new MvMedian();
        x.code(0, 10);
        x.code(1, 20);
        x.code(5, 15);
        answers.due("predict(0) of 0, 10, 20 with left 15", x.predict(0), 10);
        x.code(0, -10);
        x.code(5, 15);
        answers.due("predict(0) of 0, -10, 20 with left 15", x.predict(0), 0);
        x.code(5, -32768);
        answers.due("predict(0) of 0, -10, 20 with left -32768", x.predict(0), 0);
        x.code(1, -20);
        answers.due("predict(0) of 0, -10, -20 with left -20", x.predict(0), -10);
    }

    private static void usesTopLeftAtColumnSeven() {
        MvMedian x = new MvMedian();
        x.code(6, 20);
        x.code(7, 30);
        x.code(0, 10);
        answers.due("predict(7) of 10, 30, 20", x.predict(7), 20);
        x.code(0, 25);
        answers.due("predict(7) of 25, 30, 20", x.predict(7), 25);
        x.code(0, 40);
        answers.due("predict(7) of 40, 30, 20", x.predict(7), 30);
        x.code(6, 35);
        x.code(0, 40);
        answers.due("predict(7) of 40, 30, 35", x.predict(7), 35);
    }

    private static void readsTheRightCellsInEveryColumn() {
        MvMedian rising = Answers.withRow(10, 20, 30, 40, 50, 60, 70, 80);
        int[] wantRising = {10, 30, 40, 50, 60, 70, 80, 80};
        MvMedian falling = Answers.withRow(80, 70, 60, 50, 40, 30, 20, 10);
        int[] wantFalling = {70, 60, 50, 40, 30, 20, 10, 10};
        for (int col = 0; col < 8; col++) {
            answers.due("rising row: predict(" + col + ")", rising.predict(col), wantRising[col]);
            answers.due("falling row: predict(" + col + ")", falling.predict(col), wantFalling[col]);
        }
        // A left vector of 0 lies below all cells of the row, so the smaller of the two cells is answered.
        MvMedian lowLeft = Answers.withRow(0, 20, 30, 40, 50, 60, 70, 80);
        lowLeft.code(0, 0);
        int[] wantLowLeft = {0, 20, 30, 40, 50, 60, 70, 70};
        for (int col = 0; col < 8; col++) {
            answers.due("low left: predict(" + col + ")", lowLeft.predict(col), wantLowLeft[col]);
        }
    }

    private static void refusesWrongColumns() {
        MvMedian fresh = new MvMedian();
        MvMedian used = Answers.withRow(1, 2, 3, 4, 5, 6, 7, 8);
        for (int col : Answers.WRONG_COLUMNS) {
            answers.due("new object: predict(" + col + ")", fresh.predict(col), Answers.REFUSED);
            answers.due("used object: predict(" + col + ")", used.predict(col), Answers.REFUSED);
        }
    }

    private static void changesNothing() {
        int[] row = {9, -4, 32767, -32768, 0, 6, -1, 12};
        MvMedian x = Answers.withRow(row);
        int[] want = {0, 12, 12, 0, 6, 6, 12, 12};
        for (int round = 0; round < 3; round++) {
            for (int col = 0; col < 8; col++) {
                answers.due("round " + round + ": predict(" + col + ")", x.predict(col), want[col]);
                answers.dueState("after predict(" + col + ")", x, row, 12);
            }
            for (int col : Answers.WRONG_COLUMNS) {
                x.predict(col);
                answers.dueState("after predict(" + col + ")", x, row, 12);
            }
        }
    }
}
