import java.util.Arrays;
import java.util.stream.IntStream;

/** Runs the tests of one file, each for one sentence of the document, and counts the answers not as due. */
final class Answers {
    static final int REFUSED = 1048576;
    static final int[] TOO_SMALL = columns(-1, -1, Integer.MIN_VALUE, Integer.MIN_VALUE + 7);
    static final int[] TOO_LARGE = columns(1, 8, Integer.MAX_VALUE, REFUSED - 1);
    static final int[] WRONG_COLUMNS = IntStream.concat(IntStream.of(TOO_SMALL), IntStream.of(TOO_LARGE)).toArray();
    static final int[] EDGE_VECTORS = {-32768, -32767, -1, 0, 1, 32766, 32767};

    private int tests = 0;
    private int failed = 0;
    private int asked = 0;
    private int wrong = 0;

    void test(String sentence, Runnable body) {
        tests++;
        asked = 0;
        wrong = 0;
        try {
            body.run();
        } catch (RuntimeException e) {
            wrong++;
            System.out.println("a call threw " + e);
        }
        // A test that asked nothing has shown nothing.
        boolean passed = wrong == 0 && asked > 0;
        if (!passed) {
            failed++;
        }
        System.out.println((passed ? "ok      " : "FAILED  ") + sentence + " (" + asked + " answers)");
    }

    void finish() {
        System.out.println(tests + " tests, " + failed + " failed");
        if (failed != 0 || tests == 0) {
            System.exit(1);
        }
    }

    void due(String call, long got, long want) {
        asked++;
        if (got != want) {
            wrong++;
            System.out.println(call + " answered " + got + ", due is " + want);
        }
    }

    void dueYes(String what, boolean holds) {
        due(what + " (1 for yes)", holds ? 1 : 0, 1);
    }

    /** Holds all that the object shows of its state against the row and the left vector that are due. */
    void dueState(String when, MvMedian x, int[] row, int left) {
        for (int col = 0; col < 8; col++) {
            due(when + ": top(" + col + ")", x.top(col), row[col]);
        }
        due(when + ": left()", x.left(), left);
        for (int col = 0; col < 8; col++) {
            due(when + ": predict(" + col + ")", x.predict(col), duePredict(row, left, col));
        }
    }

    /** The median told a second time, by sorting. */
    static int duePredict(int[] row, int left, int col) {
        int[] three = {col == 0 ? 0 : left, row[col], row[col == 7 ? 6 : col + 1]};
        Arrays.sort(three);
        return three[1];
    }

    /** A predictor whose row is coded from column 0 on, so that its left vector is the last value. */
    static MvMedian withRow(int... row) {
        MvMedian x = new MvMedian();
        for (int col = 0; col < row.length; col++) {
            x.code(col, row[col]);
        }
        return x;
    }

    /** A predictor with the neighbours a (not in column 0, where it is never seen), b and c of a column. */
    static MvMedian withNeighbours(int col, int a, int b, int c) {
        int beside = col == 7 ? 6 : col + 1;
        MvMedian x = new MvMedian();
        x.code(col, b);
        x.code(beside, c);
        // The left vector comes last, from a column whose cell the prediction does not read.
        x.code(col < 4 ? col + 3 : col - 3, a);
        return x;
    }

    private static int[] columns(int sign, int... named) {
        // A column that was cut to fewer bits, or lost its sign, would pass for one from 0 to 7.
        IntStream lookalikes = IntStream.range(0, 28 * 8).map(i -> sign * (1 << (3 + i / 8)) + i % 8);
        return IntStream.concat(IntStream.of(named), lookalikes).toArray();
    }
}
