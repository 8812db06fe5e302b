/** Promise 3: code answers the narrowed vector less its prediction, and stores it. */
public final class Promise3CodeTest {
    private static final Answers answers = new Answers();

    public static void main(String[] args) {
        answers.test("if col < 0 the answer is 1048576, whatever mv is", () -> dueRefused(Answers.TOO_SMALL));
        answers.test("if col > 7 the answer is 1048576, whatever mv is", () -> dueRefused(Answers.TOO_LARGE));
        answers.test("a refused code changes nothing, whatever mv is", Promise3CodeTest::keepsAllWhenRefused);
        answers.test("0 <= col <= 7 is valid, 0 and 7 among them", Promise3CodeTest::takesTheOutermostColumns);
        answers.test("p is what predict(col) would answer before anything is stored",
            Promise3CodeTest::predictsBeforeItStores);
        answers.test("mv from -32768 to 32767 gives s == mv", Promise3CodeTest::keepsTheShortRange);
        answers.test("32768 gives -32768", () -> dueNarrowed(32768, -32768));
        answers.test("65535 gives -1", () -> dueNarrowed(65535, -1));
        answers.test("65536 gives 0", () -> dueNarrowed(65536, 0));
        answers.test("-32769 gives 32767", () -> dueNarrowed(-32769, 32767));
        answers.test("Integer.MAX_VALUE gives -1", () -> dueNarrowed(Integer.MAX_VALUE, -1));
        answers.test("Integer.MIN_VALUE gives 0", () -> dueNarrowed(Integer.MIN_VALUE, 0));
        answers.test("other values wrap around to their low 16 bits, sign extended", Promise3CodeTest::wrapsAround);
        answers.test("s is stored into row cell col", Promise3CodeTest::storesInTheRow);
        answers.test("s is stored into the left vector", Promise3CodeTest::storesInTheLeftVector);
        answers.test("the answer is s - p", Promise3CodeTest::answersTheDifference);
        answers.test("the answer reaches -65535 and 65535 without wrap-around",
            Promise3CodeTest::reachesTheGreatestDifferences);
        answers.test("a valid call can never answer 1048576", Promise3CodeTest::neverLooksRefused);
        answers.test("when col == 0, p ignores the stored left vector", Promise3CodeTest::ignoresLeftAtColumnZero);
        answers.test("when col == 0, the left vector is still overwritten", Promise3CodeTest::storesLeftAtColumnZero);
        answers.test("when col == 7, row cell 6 stands in for c in p", Promise3CodeTest::usesTopLeftAtColumnSeven);
        answers.test("when col == 7, s is still stored into the left vector",
            Promise3CodeTest::storesLeftAtColumnSeven);
        answers.test("what column 7 stored stays and is seen by left() and by later calls",
            Promise3CodeTest::keepsLeftAfterColumnSeven);
        answers.test("the old value of row cell col is the b used for p", Promise3CodeTest::usesTheOldCell);
        answers.test("only row cell col and the left vector change", Promise3CodeTest::changesOneCellAndLeft);
        answers.test("storing the value a cell already holds leaves the cell unchanged",
            Promise3CodeTest::storesTheSameValue);
        answers.test("there is no automatic reset of the left vector or of the row", Promise3CodeTest::neverResets);
        answers.test("columns may be coded in any order", Promise3CodeTest::takesAnyOrder);
        answers.test("any column may be coded any number of times", Promise3CodeTest::takesAnyColumnAgain);
        answers.finish();
    }

    private static int[] anyVectors() {
        return new int[] {0, 1, -1, 32767, 32768, 65536, Answers.REFUSED, Integer.MIN_VALUE, Integer.MAX_VALUE};
    }

    private static void dueRefused(int[] columns) {
        MvMedian fresh = new MvMedian();
        MvMedian used = Answers.withRow(1, 2, 3, 4, 5, 6, 7, 8);
        for (int col : columns) {
            for (int mv : anyVectors()) {
                String call = "code(" + col + ", " + mv + ")";
                answers.due("new object: " + call, fresh.code(col, mv), Answers.REFUSED);
                answers.due("used object: " + call, used.code(col, mv), Answers.REFUSED);
            }
        }
    }

    private static void keepsAllWhenRefused() {
        int[] row = {11, -12, 13, -14, 15, -16, 17, -18};
        MvMedian fresh = new MvMedian();
        MvMedian used = Answers.withRow(row);
        for (int col : Answers.WRONG_COLUMNS) {
            for (int mv : anyVectors()) {
                String call = "code(" + col + ", " + mv + ")";
                fresh.code(col, mv);
                answers.dueState("new object after " + call, fresh, new int[8], 0);
                used.code(col, mv);
                answers.dueState("used object after " + call, used, row, -18);
            }
        }
    }

    private static void takesTheOutermostColumns() {
        MvMedian x = new MvMedian();
        answers.due("code(0, 4)", x.code(0, 4), 4);
        answers.due("code(7, 9)", x.code(7, 9), 9);
        answers.dueState("after both", x, new int[] {4, 0, 0, 0, 0, 0, 0, 9}, 9);
    }

    private static void predictsBeforeItStores() {
        for (int col = 0; col < 8; col++) {
            for (int mv = -40; mv <= 40; mv += 8) {
                MvMedian x = Answers.withNeighbours(col, 30, 20, 10);
                int p = x.predict(col);
                answers.due("code(" + col + ", " + mv + ") with p " + p, x.code(col, mv), mv - p);
            }
        }
        MvMedian x = Answers.withNeighbours(3, 30, 20, 50);
        // With b stored too early the median would be of 30, 99, 50; with left too early, of 99, 20, 50.
        answers.due("code(3, 99) of 30, 20, 50", x.code(3, 99), 69);
        answers.due("code(3, 99) again of 99, 99, 50", x.code(3, 99), 0);
        answers.due("code(3, 60) of 99, 99, 50", x.code(3, 60), -39);
    }

    private static void keepsTheShortRange() {
        int[] columns = {0, 3, 7};
        for (int col : columns) {
            MvMedian x = new MvMedian();
            for (int mv = -32768; mv <= 32767; mv++) {
                x.code(col, mv);
                answers.due("after code(" + col + ", " + mv + "): top(" + col + ")", x.top(col), mv);
                answers.due("after code(" + col + ", " + mv + "): left()", x.left(), mv);
            }
        }
        dueNarrowed(-32768, -32768);
        dueNarrowed(32767, 32767);
    }

    private static void wrapsAround() {
        dueNarrowed(32769, -32767);
        dueNarrowed(65537, 1);
        dueNarrowed(98303, 32767);
        dueNarrowed(98304, -32768);
        dueNarrowed(-32770, 32766);
        dueNarrowed(-65535, 1);
        dueNarrowed(-65536, 0);
        dueNarrowed(-65537, -1);
        dueNarrowed(0x12345678, 0x5678);
        dueNarrowed(0x1234fedc, -292);
        for (int bit = 16; bit < 32; bit++) {
            for (int s : Answers.EDGE_VECTORS) {
                dueNarrowed(s + (1 << bit), s);
                dueNarrowed(s - (1 << bit), s);
            }
        }
    }

    /** On a new object every prediction is 0, so the answer is the narrowed vector itself. */
    private static void dueNarrowed(int mv, int want) {
        for (int col = 0; col < 8; col++) {
            MvMedian x = new MvMedian();
            answers.due("code(" + col + ", " + mv + ")", x.code(col, mv), want);
            answers.due("after code(" + col + ", " + mv + "): top(" + col + ")", x.top(col), want);
            answers.due("after code(" + col + ", " + mv + "): left()", x.left(), want);
        }
    }

    private static void storesInTheRow() {
        for (int col = 0; col < 8; col++) {
            MvMedian x = Answers.withRow(1, 2, 3, 4, 5, 6, 7, 8);
            x.code(col, -50);
            answers.due("after code(" + col + ", -50): top(" + col + ")", x.top(col), -50);
        }
    }

    private static void storesInTheLeftVector() {
        for (int col = 0; col < 8; col++) {
            MvMedian x = Answers.withRow(1, 2, 3, 4, 5, 6, 7, 8);
            x.code(col, -50);
            answers.due("after code(" + col + ", -50): left()", x.left(), -50);
        }
    }

    private static void answersTheDifference() {
        MvMedian x = new MvMedian();
        answers.due("code(0, 10)", x.code(0, 10), 10);
        answers.due("code(1, 12)", x.code(1, 12), 12);
        answers.due("second code(0, 11)", x.code(0, 11), 1);
        answers.due("second code(1, 7)", x.code(1, 7), -4);
        answers.due("code(2, -5)", x.code(2, -5), -5);
        answers.dueState("after five calls", x, new int[] {11, 7, -5, 0, 0, 0, 0, 0}, -5);
    }

    private static void reachesTheGreatestDifferences() {
        for (int col = 0; col < 8; col++) {
            dueFrom(-32768, col, 32767, 65535);
            dueFrom(32767, col, -32768, -65535);
            dueFrom(32767, col, 32768, -65535);
            dueFrom(-32768, col, -32769, 65535);
            dueFrom(-32768, col, 0, 32768);
            dueFrom(32767, col, -2, -32769);
        }
    }

    /** All neighbours hold p, so that p is the prediction in every column. */
    private static void dueFrom(int p, int col, int mv, int want) {
        MvMedian x = Answers.withRow(p, p, p, p, p, p, p, p);
        answers.due("code(" + col + ", " + mv + ") with p " + p, x.code(col, mv), want);
    }

    private static void neverLooksRefused() {
        for (int col = 0; col < 8; col++) {
            for (int p : Answers.EDGE_VECTORS) {
                // Not narrowed, the first mv less p would be 1048576.
                int[] vectors = {Answers.REFUSED + p, Answers.REFUSED, Answers.REFUSED - p, -Answers.REFUSED};
                for (int mv : vectors) {
                    int got = Answers.withRow(p, p, p, p, p, p, p, p).code(col, mv);
                    String call = "code(" + col + ", " + mv + ") with p " + p + " answered " + got + ": ";
                    answers.dueYes(call + "not refused", got != Answers.REFUSED);
                    answers.dueYes(call + "in -65535 to 65535", got >= -65535 && got <= 65535);
                }
            }
        }
        dueFrom(0, 3, Answers.REFUSED, 0);
        dueFrom(5, 3, Answers.REFUSED + 5, 0);
    }

    private static void ignoresLeftAtColumnZero() {
        for (int left : Answers.EDGE_VECTORS) {
            MvMedian x = Answers.withNeighbours(0, left, -10, 20);
            answers.due("code(0, 7) of 0, -10, 20 with left " + left, x.code(0, 7), 7);
        }
        MvMedian x = Answers.withNeighbours(0, 30, 25, 40);
        answers.due("code(0, 7) of 0, 25, 40 with left 30", x.code(0, 7), -18);
    }

    private static void storesLeftAtColumnZero() {
        MvMedian x = Answers.withNeighbours(0, 30, 0, 40);
        x.code(0, 7);
        answers.due("after code(0, 7): left()", x.left(), 7);
        answers.due("code(1, 8) of 7, 40, 0", x.code(1, 8), 1);
    }

    private static void usesTopLeftAtColumnSeven() {
        MvMedian x = Answers.withRow(31, 32, 33, 34, 35, 36, 20, 30);
        x.code(3, 10);
        answers.due("code(7, 21) of 10, 30, 20", x.code(7, 21), 1);
    }

    private static void storesLeftAtColumnSeven() {
        MvMedian x = Answers.withRow(1, 2, 3, 4, 5, 6, 7);
        x.code(7, 33);
        answers.due("after code(7, 33): left()", x.left(), 33);
        x.code(7, -34);
        answers.due("after code(7, -34): left()", x.left(), -34);
    }

    private static void keepsLeftAfterColumnSeven() {
        int[] row = {1, 2, 30, 4, 5, 6, 7, 33};
        MvMedian x = Answers.withRow(row);
        for (int round = 0; round < 3; round++) {
            answers.dueState("after code(7, 33)", x, row, 33);
            x.code(8, 99);
        }
        answers.due("predict(2) of 33, 30, 4", x.predict(2), 30);
        answers.due("code(1, 9) of 33, 2, 30", x.code(1, 9), -21);
        x.code(7, 3);
        answers.due("code(1, 9) of 3, 9, 30", x.code(1, 9), 0);
        x.code(7, 20);
        answers.due("code(1, 9) of 20, 9, 30", x.code(1, 9), -11);
    }

    private static void usesTheOldCell() {
        for (int col = 1; col < 8; col++) {
            // 20 is the middle one; with the new cell 90 the middle one would be 30.
            MvMedian x = Answers.withNeighbours(col, 30, 20, 10);
            answers.due("code(" + col + ", 90) of 30, 20, 10", x.code(col, 90), 70);
        }
        MvMedian x = Answers.withNeighbours(0, 99, 20, 30);
        answers.due("code(0, 90) of 0, 20, 30", x.code(0, 90), 70);
    }

    private static void changesOneCellAndLeft() {
        for (int col = 0; col < 8; col++) {
            for (int mv : Answers.EDGE_VECTORS) {
                int[] row = {11, 12, 13, 14, 15, 16, 17, 18};
                MvMedian x = Answers.withRow(row);
                x.code(col, mv);
                row[col] = mv;
                answers.dueState("after code(" + col + ", " + mv + ")", x, row, mv);
            }
        }
    }

    private static void storesTheSameValue() {
        for (int col = 0; col < 8; col++) {
            int[] row = {11, 12, 13, 14, 15, 16, 17, 18};
            MvMedian x = Answers.withRow(row);
            int same = row[col];
            // The left vector takes the value even where the cell has it already.
            x.code(col, same);
            answers.dueState("after code(" + col + ", " + same + ")", x, row, same);
            x.code(col, same + 65536);
            answers.dueState("after code(" + col + ", " + (same + 65536) + ")", x, row, same);
        }
    }

    private static void neverResets() {
        MvMedian x = new MvMedian();
        int[] first = {1, 2, 3, 4, 5, 6, 7, 1};
        int[] second = {9, 17, 26, 35, 44, 53, 62, 10};
        for (int col = 0; col < 8; col++) {
            answers.due("first pass: code(" + col + ")", x.code(col, col + 1), first[col]);
        }
        answers.dueState("after a full row", x, new int[] {1, 2, 3, 4, 5, 6, 7, 8}, 8);
        for (int col = 0; col < 8; col++) {
            answers.due("second pass: code(" + col + ")", x.code(col, 10 * col + 10), second[col]);
        }
        answers.dueState("after two full rows", x, new int[] {10, 20, 30, 40, 50, 60, 70, 80}, 80);
        answers.due("code(4, 1) of 80, 50, 60 straight after column 7", x.code(4, 1), -59);
    }

    private static void takesAnyOrder() {
        for (int step = 1; step < 8; step += 2) {
            MvMedian x = new MvMedian();
            int[] row = new int[8];
            for (int call = 0; call < 1000; call++) {
                int col = (1000 - call) * step % 8;
                int mv = call - 500;
                int left = call == 0 ? 0 : mv - 1;
                int want = mv - Answers.duePredict(row, left, col);
                answers.due("step " + step + ": code(" + col + ", " + mv + ")", x.code(col, mv), want);
                row[col] = mv;
                answers.dueState("step " + step + " after call " + call, x, row, mv);
            }
        }
    }

    private static void takesAnyColumnAgain() {
        for (int col = 0; col < 8; col++) {
            MvMedian x = new MvMedian();
            int[] row = new int[8];
            for (int call = 1; call <= 1000; call++) {
                // The cell and the left vector hold the last value; in column 0 the other two are 0.
                int want = call - (col == 0 ? 0 : call - 1);
                answers.due("call " + call + ": code(" + col + ")", x.code(col, call), want);
            }
            row[col] = 1000;
            answers.dueState("after 1000 calls of code(" + col + ")", x, row, 1000);
        }
    }
}
