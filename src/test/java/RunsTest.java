/**
 * Long runs of mixed calls, right and wrong ones, each held against a plain model of the object.
 * An object is made for 512 calls: every run makes just so many, and each kind of call comes last in some.
 */
public final class RunsTest {
    private static final int CALLS = 512;
    private static final int RUNS = 1200;
    private static final int KINDS = 12;
    // As many calls go by before the numbers that are set come from another system.
    private static final int STRETCH = 64;

    private final NormalForms forms = new NormalForms();
    private int[] a = new int[9];
    private final int[] b = new int[3];
    private int[] nextMatrix = new int[9];
    private int[] nextRight = new int[3];
    private final int run;
    private int calls = 0;

    private RunsTest(int run) {
        this.run = run;
    }

    public static void main(String[] args) {
        Due.begin();
        for (int run = 0; run < RUNS; run++) {
            RunsTest test = new RunsTest(run);
            while (test.calls < CALLS - 1) {
                // Half of the calls change something, so that no answer may be kept from before.
                test.call(Systems.some(0, 1) == 0 ? Systems.some(0, 1) : Systems.some(0, KINDS - 1));
            }
            test.call(run % KINDS);
            Due.is("calls of a run", test.calls, CALLS);
        }
        Due.end();
    }

    private void call(int kind) {
        if (calls % STRETCH == 0) {
            nextMatrix = Systems.someMatrix((run + calls / STRETCH) % Systems.KINDS);
            nextRight = Systems.someRight(nextMatrix, Systems.some(0, 4));
        }
        calls++;
        switch (kind) {
            case 0 -> set();
            case 1 -> setRight();
            case 2 -> turn();
            case 3 -> due("rank()", forms.rank(), Reference.rank(a));
            case 4 -> due("determinant()", forms.determinant(), Reference.determinant(a));
            case 5 -> invariant(someIn(1, 3));
            case 6 -> due("solvable()", forms.solvable() ? 1 : 0, Reference.solvable(a, b) ? 1 : 0);
            case 7 -> solvableBy(someIn(1, 12));
            case 8 -> nullCount(someIn(1, 12));
            case 9 -> imageCount(someIn(1, 12));
            case 10 -> due("firstFailure()", forms.firstFailure(), Reference.firstFailure(a, b));
            default -> only(someIn(0, 2));
        }
    }

    private void due(String call, int got, int want) {
        Due.is("run " + run + ", call " + calls + ": " + call, got, want);
    }

    /** Mostly a number that is taken, now and then one that is not. */
    private static int someIn(int from, int to) {
        return switch (Systems.some(0, 19)) {
            case 0 -> from - 1;
            case 1 -> to + 1;
            case 2 -> Systems.some(Integer.MIN_VALUE, Integer.MIN_VALUE + 12);
            case 3 -> Systems.some(Integer.MAX_VALUE - 12, Integer.MAX_VALUE);
            default -> Systems.some(from, to);
        };
    }

    private static boolean isIn(int number, int from, int to) {
        return from <= number && number <= to;
    }

    private void set() {
        int r = someIn(0, 2);
        int c = someIn(0, 2);
        boolean place = isIn(r, 0, 2) && isIn(c, 0, 2);
        int value = place && Systems.some(0, 9) > 0 ? nextMatrix[3 * r + c] : someIn(-9, 9);
        boolean taken = place && isIn(value, -9, 9);
        due("set(" + r + ", " + c + ", " + value + ")", forms.set(r, c, value) ? 1 : 0, taken ? 1 : 0);
        if (taken) {
            a[3 * r + c] = value;
        }
    }

    private void setRight() {
        int r = someIn(0, 2);
        int value = isIn(r, 0, 2) && Systems.some(0, 9) > 0 ? nextRight[r] : someIn(-9, 9);
        boolean taken = isIn(r, 0, 2) && isIn(value, -9, 9);
        due("setRight(" + r + ", " + value + ")", forms.setRight(r, value) ? 1 : 0, taken ? 1 : 0);
        if (taken) {
            b[r] = value;
        }
    }

    private void turn() {
        forms.turn();
        a = Reference.turned(a);
    }

    private void invariant(int k) {
        due("invariant(" + k + ")", forms.invariant(k), Reference.invariant(a, k));
    }

    private void solvableBy(int m) {
        due("solvableBy(" + m + ")", forms.solvableBy(m), Reference.solvableBy(a, b, m));
    }

    private void nullCount(int m) {
        due("nullCount(" + m + ")", forms.nullCount(m), Reference.nullCount(a, m));
    }

    private void imageCount(int m) {
        due("imageCount(" + m + ")", forms.imageCount(m), Reference.imageCount(a, m));
    }

    private void only(int c) {
        due("only(" + c + ")", forms.only(c), Reference.only(a, b, c));
    }
}
