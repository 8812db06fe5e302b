/** Promise 3: code answers the narrowed vector less its prediction, and stores it. */
public final class Promise3CodeTest {
    private static final Answers answers = new Answers();

    public static void main(String[] args) {
        answersTheDifference();
        predictsBeforeItStores();
        narrowsToShort();
        reachesTheGreatestDifferences();
        storesAtColumnZero();
        storesAtColumnSeven();
        changesOneCellAndLeft();
        neverResets();
        refusesWrongColumns();
        answers.finish();
    }

    private static void answersTheDifference() {
        MvMedian x = new MvMedian();
        answers.due("code(0, 10)", x.code(0, 10), 10);
        answers.due("code(1, 12)", x.code(1, 12), 12);
        answers.due("second code(0, 11)", x.code(0, 11), 1);
        answers.due("second code(1, 7)", x.code(1, 7), -4);
        answers.due("code(2, -5)", x.code(2, -5), -5);
        answers.dueState("after five calls", x, new int[] {11, 7, -5, 0, 0, 0, 0, 0}, -5);
    }

    private static void predictsBeforeItStores() {
        MvMedian x = new MvMedian();
        x.code(4, 50);
        x.code(3, 20);
        x.code(6, 30);
        // With b stored too early the median would be of 30, 99, 50; with left too early, of 99, 20, 50.
        answers.due("code(3, 99) of 30, 20, 50", x.code(3, 99), 69);
        answers.due("code(3, 99) again of 99, 99, 50", x.code(3, 99), 0);
        answers.due("code(3, 60) of 99, 99, 50", x.code(3, 60), -39);
    }

    private static void narrowsToShort() {
        dueNarrowed(0, 0);
        dueNarrowed(1, 1);
        dueNarrowed(-1, -1);
        dueNarrowed(127, 127);
        dueNarrowed(128, 128);
        dueNarrowed(-129, -129);
        dueNarrowed(32767, 32767);
        dueNarrowed(-32768, -32768);
        dueNarrowed(32768, -32768);
        dueNarrowed(-32769, 32767);
        dueNarrowed(65535, -1);
        dueNarrowed(65536, 0);
        dueNarrowed(65537, 1);
        dueNarrowed(-65535, 1);
        dueNarrowed(-65536, 0);
        dueNarrowed(98304, -32768);
        dueNarrowed(Answers.REFUSED, 0);
        dueNarrowed(0x12345678, 0x5678);
        dueNarrowed(0x1234fedc, -292);
        dueNarrowed(Integer.MAX_VALUE, -1);
        dueNarrowed(Integer.MIN_VALUE, 0);
    }

    /** On a new object every prediction is 0, so the answer is the narrowed vector itself. */
    private static void dueNarrowed(int mv, int want) {
        for (int col = 0; col < 8; col++) {
            MvMedian x = new MvMedian();
            int[] row = new int[8];
            row[col] = want;
            answers.due("code(" + col + ", " + mv + ")", x.code(col, mv), want);
            answers.dueState("after code(" + col + ", " + mv + ")", x, row, want);
        }
    }

    private static void reachesTheGreatestDifferences() {
        MvMedian low = Answers.withRow(-32768, -32768);
        answers.due("code(0, 32767) on -32768", low.code(0, 32767), 65535);
        MvMedian high = Answers.withRow(32767, 32767);
        answers.due("code(0, -32768) on 32767", high.code(0, -32768), -65535);
        MvMedian wrapped = Answers.withRow(32767, 32767);
        answers.due("code(0, 32768) on 32767", wrapped.code(0, 32768), -65535);
    }

    private static void storesAtColumnZero() {
        MvMedian x = new MvMedian();
        x.code(1, 40);
        x.code(5, 30);
        // The left vector 30 must not count here: the median is of 0, 0, 40.
        answers.due("code(0, 7) with left 30", x.code(0, 7), 7);
        answers.dueState("after code(0, 7)", x, new int[] {7, 40, 0, 0, 0, 30, 0, 0}, 7);
        answers.due("code(1, 8) of 7, 40, 0", x.code(1, 8), 1);
    }

    private static void storesAtColumnSeven() {
        MvMedian x = new MvMedian();
        x.code(6, 20);
        x.code(7, 50);
        x.code(2, 30);
        answers.due("code(7, 33) of 30, 50, 20", x.code(7, 33), 3);
        answers.dueState("after code(7, 33)", x, new int[] {0, 0, 30, 0, 0, 0, 20, 33}, 33);
        answers.due("code(0, 5) after column 7", x.code(0, 5), 5);
        x.code(7, 33);
        answers.due("code(2, 1) of 33, 30, 0", x.code(2, 1), -29);
    }

    private static void changesOneCellAndLeft() {
        for (int col = 0; col < 8; col++) {
            int[] row = {11, 12, 13, 14, 15, 16, 17, 18};
            MvMedian x = Answers.withRow(row);
            x.code(col, -77);
            row[col] = -77;
            answers.dueState("after code(" + col + ", -77)", x, row, -77);
            x.code(col, -77);
            answers.dueState("after a second code(" + col + ", -77)", x, row, -77);
        }
    }

    private static void neverResets() {
        MvMedian x = new MvMedian();
        int[] row = new int[8];
        int left = 0;
        for (int call = 0; call < 1000; call++) {
            int col = call * 5 % 8;
            left = call - 500;
            row[col] = left;
            x.code(col, left);
            answers.dueState("after call " + call, x, row, left);
        }
    }

    private static void refusesWrongColumns() {
        int[] vectors = {0, 1, -1, 32767, 32768, 65536, Integer.MIN_VALUE, Integer.MAX_VALUE};
        int[] row = {1, 2, 3, 4, 5, 6, 7, 8};
        MvMedian fresh = new MvMedian();
        MvMedian used = Answers.withRow(row);
        for (int col : Answers.WRONG_COLUMNS) {
            for (int mv : vectors) {
                String call = "code(" + col + ", " + mv + ")";
                answers.due("new object: " + call, fresh.code(col, mv), Answers.REFUSED);
                answers.dueState("new object after " + call, fresh, new int[8], 0);
                answers.due("used object: " + call, used.code(col, mv), Answers.REFUSED);
                answers.dueState("used object after " + call, used, row, 8);
            }
        }
    }
}
