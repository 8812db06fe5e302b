/** Promise 2: predict answers the median of three neighbours and changes nothing. */
public final class Promise2PredictTest {
    private static final Answers answers = new Answers();

    public static void main(String[] args) {
        answers.test("if col < 0 the answer is 1048576", () -> dueRefused(Answers.TOO_SMALL));
        answers.test("if col > 7 the answer is 1048576", () -> dueRefused(Answers.TOO_LARGE));
        answers.test("0 <= col <= 7 is valid, 0 and 7 among them", Promise2PredictTest::takesTheOutermostColumns);
        answers.test("a is the left vector", Promise2PredictTest::readsTheLeftVector);
        answers.test("a is 0 when col == 0", Promise2PredictTest::usesZeroLeftOfColumnZero);
        answers.test("when col == 0 the left vector is not used at all, whatever it holds",
            Promise2PredictTest::ignoresEveryLeftVectorAtColumnZero);
        answers.test("when col == 1 the left vector is used", Promise2PredictTest::usesLeftAtColumnOne);
        answers.test("b is row cell col", Promise2PredictTest::readsTheCellAbove);
        answers.test("c is row cell col + 1, up to col == 6", Promise2PredictTest::readsTheCellAboveRight);
        answers.test("when col == 7 row cell 6 stands in for c", Promise2PredictTest::usesTopLeftAtColumnSeven);
        answers.test("the three are ordered by value and the middle one is answered",
            Promise2PredictTest::answersTheMiddleInEveryOrder);
        answers.test("when two of them are equal, that value is the median", Promise2PredictTest::answersTheValueOfTwo);
        answers.test("when three of them are equal, that value is the median",
            Promise2PredictTest::answersTheValueOfThree);
        answers.test("the answer is one of a, b, c and lies in the short range, its ends among them",
            Promise2PredictTest::answersOneOfTheThree);
        answers.test("predict changes nothing for a valid column", Promise2PredictTest::changesNothingWhenValid);
        answers.test("predict changes nothing for a refused column", Promise2PredictTest::changesNothingWhenRefused);
        answers.test("any number of calls gives the same answer until a code call",
            Promise2PredictTest::answersTheSameAgain);
        answers.finish();
    }

    private static void dueRefused(int[] columns) {
        MvMedian fresh = new MvMedian();
        MvMedian used = Answers.withRow(1, 2, 3, 4, 5, 6, 7, 8);
        for (int col : columns) {
            answers.due("new object: predict(" + col + ")", fresh.predict(col), Answers.REFUSED);
            answers.due("used object: predict(" + col + ")", used.predict(col), Answers.REFUSED);
        }
    }

    private static void takesTheOutermostColumns() {
        MvMedian x = Answers.withRow(10, 20, 30, 40, 50, 60, 70, 80);
        answers.due("predict(0) of 0, 10, 20", x.predict(0), 10);
        answers.due("predict(7) of 80, 80, 70", x.predict(7), 80);
    }

    private static void readsTheLeftVector() {
        for (int col = 1; col < 8; col++) {
            dueMedian(col, 2, 1, 3, 2);
            dueMedian(col, -2, 3, -9, -2);
        }
    }

    private static void usesZeroLeftOfColumnZero() {
        // 15 lies between 10 and 20, and between -10 and 20, so it would be the answer if it counted.
        dueMedian(0, 15, 10, 20, 10);
        dueMedian(0, 15, -10, 20, 0);
        dueMedian(0, 15, 20, -10, 0);
        dueMedian(0, -15, -10, -20, -10);
    }

    private static void ignoresEveryLeftVectorAtColumnZero() {
        int[][] cells = {{10, 20, 10}, {-10, 20, 0}, {-20, -10, -10}, {0, 0, 0}, {32767, -32768, 0}};
        for (int[] bAndCAndDue : cells) {
            MvMedian x = Answers.withRow(bAndCAndDue[0], bAndCAndDue[1]);
            for (int left = -32768; left <= 32767; left++) {
                x.code(5, left);
                answers.due("predict(0) of 0, " + bAndCAndDue[0] + ", " + bAndCAndDue[1] + " with left " + left,
                    x.predict(0), bAndCAndDue[2]);
            }
        }
    }

    private static void usesLeftAtColumnOne() {
        dueMedian(1, 15, 10, 20, 15);
        dueMedian(1, -15, -10, -20, -15);
    }

    private static void readsTheCellAbove() {
        for (int col = 1; col < 8; col++) {
            dueMedian(col, 1, 2, 3, 2);
            dueMedian(col, 9, -2, -3, -2);
        }
        dueMedian(0, 99, 2, 3, 2);
    }

    private static void readsTheCellAboveRight() {
        for (int col = 1; col < 7; col++) {
            dueMedian(col, 1, 3, 2, 2);
            dueMedian(col, 9, -9, -2, -2);
        }
        dueMedian(0, 99, 3, 2, 2);
        MvMedian x = Answers.withRow(0, 0, 0, 0, 0, 50, 30, 20);
        x.code(2, 10);
        answers.due("predict(6) of 10, 30, 20", x.predict(6), 20);
    }

    private static void usesTopLeftAtColumnSeven() {
        // Column 0 stands on the far side of the row: its cell must not come round as c.
        MvMedian x = Answers.withRow(31, 32, 33, 34, 35, 36, 20, 30);
        x.code(3, 10);
        answers.due("predict(7) of 10, 30, 20", x.predict(7), 20);
        x.code(3, 25);
        answers.due("predict(7) of 25, 30, 20", x.predict(7), 25);
        x.code(3, 40);
        answers.due("predict(7) of 40, 30, 20", x.predict(7), 30);
        x.code(6, 35);
        x.code(3, 40);
        answers.due("predict(7) of 40, 30, 35", x.predict(7), 35);
    }

    private static void answersTheMiddleInEveryOrder() {
        for (int col = 1; col < 8; col++) {
            dueMedian(col, 3, 1, 2, 2);
            dueMedian(col, 3, 2, 1, 2);
            dueMedian(col, 1, 2, 3, 2);
            dueMedian(col, 1, 3, 2, 2);
            dueMedian(col, 2, 1, 3, 2);
            dueMedian(col, 2, 3, 1, 2);
            dueMedian(col, -3, -1, -2, -2);
            dueMedian(col, -1, 0, 1, 0);
            dueMedian(col, 5, -7, 2, 2);
        }
    }

    private static void answersTheValueOfTwo() {
        for (int col = 1; col < 8; col++) {
            dueMedian(col, 5, 5, 1, 5);
            dueMedian(col, 5, 1, 5, 5);
            dueMedian(col, 1, 5, 5, 5);
            dueMedian(col, 1, 1, 5, 1);
            dueMedian(col, 1, 5, 1, 1);
            dueMedian(col, 5, 1, 1, 1);
        }
        dueMedian(0, 99, 5, 5, 5);
        dueMedian(0, 99, 0, 5, 0);
        dueMedian(0, 99, 5, 0, 0);
        dueMedian(0, 99, -5, -5, -5);
    }

    private static void answersTheValueOfThree() {
        for (int col = 1; col < 8; col++) {
            dueMedian(col, 4, 4, 4, 4);
            dueMedian(col, -4, -4, -4, -4);
            dueMedian(col, 32767, 32767, 32767, 32767);
            dueMedian(col, -32768, -32768, -32768, -32768);
        }
        dueMedian(0, 99, 0, 0, 0);
    }

    private static void answersOneOfTheThree() {
        for (int col = 0; col < 8; col++) {
            for (int a : Answers.EDGE_VECTORS) {
                for (int b : Answers.EDGE_VECTORS) {
                    for (int c : Answers.EDGE_VECTORS) {
                        dueOneOfTheThree(col, a, b, c);
                    }
                }
            }
        }
        dueMedian(3, -32768, 32767, 0, 0);
        dueMedian(3, -32768, -32768, 32767, -32768);
        dueMedian(3, 32767, 32767, -32768, 32767);
        dueMedian(3, -32768, -32767, 32767, -32767);
        dueMedian(3, 32766, 32767, -32768, 32766);
    }

    private static void dueOneOfTheThree(int col, int a, int b, int c) {
        int seenLeft = col == 0 ? 0 : a;
        int got = Answers.withNeighbours(col, a, b, c).predict(col);
        String call = "predict(" + col + ") with " + a + ", " + b + ", " + c + " answered " + got + ": ";
        answers.dueYes(call + "one of the three", got == seenLeft || got == b || got == c);
        answers.dueYes(call + "in the short range", got >= -32768 && got <= 32767);
    }

    private static void changesNothingWhenValid() {
        int[] row = {9, -4, 32767, -32768, 0, 6, -1, 12};
        MvMedian x = Answers.withRow(row);
        for (int col = 0; col < 8; col++) {
            x.predict(col);
            answers.dueState("after predict(" + col + ")", x, row, 12);
        }
    }

    private static void changesNothingWhenRefused() {
        int[] row = {9, -4, 32767, -32768, 0, 6, -1, 12};
        MvMedian x = Answers.withRow(row);
        for (int col : Answers.WRONG_COLUMNS) {
            x.predict(col);
            answers.dueState("after predict(" + col + ")", x, row, 12);
        }
    }

    private static void answersTheSameAgain() {
        MvMedian x = Answers.withRow(9, -4, 32767, -32768, 0, 6, -1, 12);
        int[] want = {0, 12, 12, 0, 6, 6, 12, 12};
        for (int round = 0; round < 1000; round++) {
            for (int col = 0; col < 8; col++) {
                answers.due("round " + round + ": predict(" + col + ")", x.predict(col), want[col]);
            }
            // The calls that are not a valid code must not tell in the answers either.
            x.predict(8);
            x.top(round % 8);
            x.left();
            x.code(-1, round);
        }
        x.code(1, 5);
        answers.due("after code(1, 5): predict(0) of 0, 9, 5", x.predict(0), 5);
    }

    private static void dueMedian(int col, int a, int b, int c, int want) {
        MvMedian x = Answers.withNeighbours(col, a, b, c);
        answers.due("predict(" + col + ") with " + a + ", " + b + ", " + c, x.predict(col), want);
    }
}
