/** Promise 4: top answers a row cell and changes nothing. */
public final class Promise4TopTest {
    private static final Answers answers = new Answers();

    public static void main(String[] args) {
        answers.test("if col < 0 the answer is 1048576", () -> dueRefused(Answers.TOO_SMALL));
        answers.test("if col > 7 the answer is 1048576", () -> dueRefused(Answers.TOO_LARGE));
        answers.test("0 <= col <= 7 answers row cell col, 0 and 7 among them", Promise4TopTest::answersItsOwnCell);
        answers.test("0 if that cell was never written since construction", Promise4TopTest::answersZeroIfNotWritten);
        answers.test("otherwise the s of the latest code call with that col", Promise4TopTest::answersTheLatest);
        answers.test("a refused code call does not count as the latest", Promise4TopTest::passesOverRefusedCalls);
        answers.test("the answer lies in -32768 to 32767, the ends among them", Promise4TopTest::answersTheRangeEnds);
        answers.test("top changes nothing for a valid column", Promise4TopTest::changesNothingWhenValid);
        answers.test("top changes nothing for a refused column", Promise4TopTest::changesNothingWhenRefused);
        answers.finish();
    }

    private static void dueRefused(int[] columns) {
        MvMedian fresh = new MvMedian();
        MvMedian used = Answers.withRow(1, 2, 3, 4, 5, 6, 7, 8);
        for (int col : columns) {
            answers.due("new object: top(" + col + ")", fresh.top(col), Answers.REFUSED);
            answers.due("used object: top(" + col + ")", used.top(col), Answers.REFUSED);
        }
    }

    private static void answersItsOwnCell() {
        MvMedian x = Answers.withRow(10, 20, 30, 40, 50, 60, 70, 80);
        for (int col = 0; col < 8; col++) {
            answers.due("top(" + col + ")", x.top(col), 10 * col + 10);
        }
    }

    private static void answersZeroIfNotWritten() {
        for (int written = 0; written < 8; written++) {
            MvMedian x = new MvMedian();
            x.code(written, 41);
            for (int col = 0; col < 8; col++) {
                answers.due("after code(" + written + ", 41): top(" + col + ")", x.top(col), col == written ? 41 : 0);
            }
        }
    }

    private static void answersTheLatest() {
        for (int col = 0; col < 8; col++) {
            MvMedian x = new MvMedian();
            x.code(col, 41);
            answers.due("after 41: top(" + col + ")", x.top(col), 41);
            x.code((col + 1) % 8, 5);
            answers.due("after another column: top(" + col + ")", x.top(col), 41);
            x.code(col, -42);
            answers.due("after -42: top(" + col + ")", x.top(col), -42);
            x.code(col, 65536 + 43);
            answers.due("after 65579, narrowed to 43: top(" + col + ")", x.top(col), 43);
            x.code(col, 0);
            answers.due("after 0: top(" + col + ")", x.top(col), 0);
        }
    }

    private static void passesOverRefusedCalls() {
        MvMedian x = Answers.withRow(10, 20, 30, 40, 50, 60, 70, 80);
        for (int wrong : Answers.WRONG_COLUMNS) {
            x.code(wrong, 9);
            for (int col = 0; col < 8; col++) {
                answers.due("after code(" + wrong + ", 9): top(" + col + ")", x.top(col), 10 * col + 10);
            }
        }
    }

    private static void answersTheRangeEnds() {
        MvMedian x = Answers.withRow(32767, -32768, 32768, -32769, 65535, 65536, 255, -256);
        int[] want = {32767, -32768, -32768, 32767, -1, 0, 255, -256};
        for (int col = 0; col < 8; col++) {
            answers.due("range: top(" + col + ")", x.top(col), want[col]);
        }
    }

    private static void changesNothingWhenValid() {
        int[] row = {8, 7, 6, 5, 4, 3, 2, 1};
        MvMedian x = Answers.withRow(row);
        for (int col = 0; col < 8; col++) {
            x.top(col);
            answers.dueState("after top(" + col + ")", x, row, 1);
        }
    }

    private static void changesNothingWhenRefused() {
        int[] row = {8, 7, 6, 5, 4, 3, 2, 1};
        MvMedian x = Answers.withRow(row);
        for (int col : Answers.WRONG_COLUMNS) {
            x.top(col);
            answers.dueState("after top(" + col + ")", x, row, 1);
        }
    }
}
