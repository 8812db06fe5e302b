/** Predicts one motion vector component by medians over a row of eight blocks. */
public final class MvMedian {
    private static final int REFUSED = 1048576;
    private static final int COLUMNS = 8;
    private static final int LAST = COLUMNS - 1;

    private final short[] row = new short[COLUMNS];
    private short leftVector = 0;

    public MvMedian() {
    }

    public int predict(int col) {
        if (!isColumn(col)) {
            return REFUSED;
        }
        // Column 0 has no left neighbour, so the stored vector must not count there.
        int a = col == 0 ? 0 : leftVector;
        int b = row[col];
        // The last column has no top-right neighbour: the top-left stands in for it.
        int c = col == LAST ? row[LAST - 1] : row[col + 1];
        return median(a, b, c);
    }

    public int code(int col, int mv) {
        if (!isColumn(col)) {
            return REFUSED;
        }
        // The prediction comes first: storing changes the cells that it reads.
        int p = predict(col);
        short s = (short) mv;
        row[col] = s;
        leftVector = s;
        return s - p;
    }

    public int top(int col) {
        return isColumn(col) ? row[col] : REFUSED;
    }

    public int left() {
        return leftVector;
    }

    private static boolean isColumn(int col) {
        return col >= 0 && col <= LAST;
    }

    private static int median(int a, int b, int c) {
        int low = a < b ? a : b;
        int high = a < b ? b : a;
        if (c < low) {
            return low;
        }
        return c > high ? high : c;
    }
}
