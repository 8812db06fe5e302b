/** Counts the answers that are not the ones due; every test of the project reports through it. */
final class Answers {
    static final int REFUSED = 1048576;
    static final int[] WRONG_COLUMNS = {
        -1, 8, -2, 9, -8, 16, 255, -256, 65536, -65536, REFUSED, Integer.MIN_VALUE, Integer.MAX_VALUE
    };

    private int wrong = 0;
    private int asked = 0;

    void due(String call, long got, long want) {
        asked++;
        if (got != want) {
            wrong++;
            System.out.println(call + " answered " + got + ", due is " + want);
        }
    }

    /** Holds the whole visible state against the row and the left vector that are due. */
    void dueState(String when, MvMedian x, int[] row, int left) {
        for (int col = 0; col < row.length; col++) {
            due(when + ": top(" + col + ")", x.top(col), row[col]);
        }
        due(when + ": left()", x.left(), left);
    }

    void finish() {
        // A test that asked nothing has shown nothing.
        if (asked == 0) {
            wrong++;
        }
        System.out.println(asked + " answers, " + wrong + " not as due");
        if (wrong != 0) {
            System.exit(1);
        }
    }

    /** A predictor whose row is coded from column 0 on, so that its left vector is the last value. */
    static MvMedian withRow(int... row) {
        MvMedian x = new MvMedian();
        for (int col = 0; col < row.length; col++) {
            x.code(col, row[col]);
        }
        return x;
    }
}
