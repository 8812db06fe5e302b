/** Promises 2 to 5 together: long runs of calls against a plain second telling of the document. */
public final class LongRunTest {
    private static final Answers answers = new Answers();

    // A fixed seed of our own, so that every run makes the same calls.
    private static int seed = 20261115;

    public static void main(String[] args) {
        // Narrow ranges make equal neighbours common; wide ones make wrap-around common.
        for (int bits = 1; bits <= 18; bits++) {
            int range = 1 << bits;
            answers.test("long runs with vectors of " + bits + " bits", () -> runOnNewObjects(range));
        }
        answers.finish();
    }

    private static void runOnNewObjects(int range) {
        for (int run = 0; run < 10; run++) {
            MvMedian x = new MvMedian();
            int[] row = new int[8];
            int left = 0;
            for (int call = 0; call < 300; call++) {
                int col = next(10) - 1;
                int mv = next(range) - range / 2;
                String when = "run " + run + ", call " + call + ": ";
                boolean valid = col >= 0 && col <= 7;
                int s = Math.floorMod(mv + 32768, 65536) - 32768;
                int want = valid ? s - Answers.duePredict(row, left, col) : Answers.REFUSED;
                answers.due(when + "code(" + col + ", " + mv + ")", x.code(col, mv), want);
                if (valid) {
                    row[col] = s;
                    left = s;
                }
                answers.dueState(when + "after code", x, row, left);
            }
        }
    }

    private static int next(int bound) {
        seed = seed * 1103515245 + 12345;
        return (seed >>> 8) % bound;
    }
}
