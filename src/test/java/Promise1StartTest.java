/** Promise 1: a new object holds zeros, and each object has its own state. */
public final class Promise1StartTest {
    private static final Answers answers = new Answers();

    public static void main(String[] args) {
        startsWithZeros();
        startsWithZerosAfterOthersWereUsed();
        keepsItsOwnState();
        answers.finish();
    }

    private static void startsWithZeros() {
        dueAllZero("new object", new MvMedian());
    }

    private static void startsWithZerosAfterOthersWereUsed() {
        Answers.withRow(1, 2, 3, 4, 5, 6, 7, 8);
        dueAllZero("new object after another was coded", new MvMedian());
    }

    private static void keepsItsOwnState() {
        MvMedian one = new MvMedian();
        MvMedian other = new MvMedian();
        for (int col = 0; col < 8; col++) {
            one.code(col, 100 + col);
        }
        dueAllZero("untouched object", other);
        other.code(3, -9);
        answers.dueState("one", one, new int[] {100, 101, 102, 103, 104, 105, 106, 107}, 107);
        answers.dueState("other", other, new int[] {0, 0, 0, -9, 0, 0, 0, 0}, -9);
    }

    private static void dueAllZero(String when, MvMedian x) {
        answers.dueState(when, x, new int[8], 0);
        for (int col = 0; col < 8; col++) {
            answers.due(when + ": predict(" + col + ")", x.predict(col), 0);
        }
    }
}
