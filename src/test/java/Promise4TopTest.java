/** Promise 4: top answers a row cell and changes nothing. */
public final class Promise4TopTest {
    private static final Answers answers = new Answers();

    public static void main(String[] args) {
        answersTheLatestStoredVector();
        answersTheEndsOfTheShortRange();
        refusesWrongColumns();
        changesNothing();
        answers.finish();
    }

    private static void answersTheLatestStoredVector() {
        for (int col = 0; col < 8; col++) {
            MvMedian x = new MvMedian();
            answers.due("never written: top(" + col + ")", x.top(col), 0);
            x.code(col, 41);
            answers.due("after 41: top(" + col + ")", x.top(col), 41);
            x.code((col + 1) % 8, 5);
            answers.due("after another column: top(" + col + ")", x.top(col), 41);
            x.code(col, -42);
            answers.due("after -42: top(" + col + ")", x.top(col), -42);
            x.code(-1, 9);
            x.code(8, 9);
            answers.due("after refused calls: top(" + col + ")", x.top(col), -42);
        }
    }

    private static void answersTheEndsOfTheShortRange() {
        MvMedian x = Answers.withRow(32767, -32768, 32768, -32769, 65535, 65536, 255, -256);
        int[] want = {32767, -32768, -32768, 32767, -1, 0, 255, -256};
        for (int col = 0; col < 8; col++) {
            answers.due("range: top(" + col + ")", x.top(col), want[col]);
        }
    }

    private static void refusesWrongColumns() {
        MvMedian fresh = new MvMedian();
        MvMedian used = Answers.withRow(1, 2, 3, 4, 5, 6, 7, 8);
        for (int col : Answers.WRONG_COLUMNS) {
            answers.due("new object: top(" + col + ")", fresh.top(col), Answers.REFUSED);
            answers.due("used object: top(" + col + ")", used.top(col), Answers.REFUSED);
        }
    }

    private static void changesNothing() {
        int[] row = {8, 7, 6, 5, 4, 3, 2, 1};
        MvMedian x = Answers.withRow(row);
        for (int col = 0; col < 8; col++) {
            x.top(col);
            answers.dueState("after top(" + col + ")", x, row, 1);
        }
        for (int col : Answers.WRONG_COLUMNS) {
            x.top(col);
            answers.dueState("after top(" + col + ")", x, row, 1);
        }
    }
}
