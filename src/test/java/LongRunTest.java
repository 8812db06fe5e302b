import java.util.Arrays;

/** Promises 2 to 5 together: long runs of calls against a plain second telling of the document. */
public final class LongRunTest {
    private static final Answers answers = new Answers();

    // A fixed seed of our own, so that every run makes the same calls.
    private static int seed = 20261115;

    private static int[] row = new int[8];
    private static int left = 0;

    public static void main(String[] args) {
        for (int run = 0; run < 200; run++) {
            // Narrow ranges make equal neighbours common; wide ones make wrap-around common.
            runOnNewObject(run, 2 << (run % 18));
        }
        answers.finish();
    }

    private static void runOnNewObject(int run, int range) {
        MvMedian x = new MvMedian();
        row = new int[8];
        left = 0;
        for (int call = 0; call < 300; call++) {
            int col = next(10) - 1;
            int mv = next(range) - range / 2;
            String when = "run " + run + ", call " + call + ": ";
            answers.due(when + "predict(" + col + ")", x.predict(col), duePredict(col));
            answers.due(when + "code(" + col + ", " + mv + ")", x.code(col, mv), dueCode(col, mv));
            answers.dueState(when + "after code", x, row, left);
        }
    }

    private static int next(int bound) {
        seed = seed * 1103515245 + 12345;
        return (seed >>> 8) % bound;
    }

    private static int duePredict(int col) {
        if (col < 0 || col > 7) {
            return Answers.REFUSED;
        }
        int[] three = {col == 0 ? 0 : left, row[col], row[col == 7 ? 6 : col + 1]};
        Arrays.sort(three);
        return three[1];
    }

    private static int dueCode(int col, int mv) {
        int p = duePredict(col);
        if (p == Answers.REFUSED) {
            return p;
        }
        left = Math.floorMod(mv + 32768, 65536) - 32768;
        row[col] = left;
        return left - p;
    }
}
