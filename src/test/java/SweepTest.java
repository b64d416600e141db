import java.util.Arrays;

/** Many systems of every rank, each call held against another way to its answer. */
public final class SweepTest {
    private static final int BAD = -1000000;
    private static final int SYSTEMS = 6000;
    private static final int[][] EDGE_RIGHTS = {{9, 9, 9}, {-9, 9, -9}, {0, 0, -9}, {0, 0, 0}};

    private SweepTest() {
    }

    public static void main(String[] args) {
        Due.begin();
        someSystems();
        allMatricesOfNines();
        Due.end();
    }

    private static void someSystems() {
        int[] ranks = new int[4];
        int[] kinds = new int[3];
        int hidden = 0;
        for (int i = 0; i < SYSTEMS; i++) {
            int[] a = Systems.someMatrix(i % Systems.KINDS);
            int[] b = Systems.someRight(a, i % 5);
            NormalForms forms = compareBothWays(a, b);
            ranks[forms.rank()]++;
            kinds[forms.only(0) != BAD ? 2 : forms.solvable() ? 1 : 0]++;
            hidden += !forms.solvable() && forms.firstFailure() == 0 ? 1 : 0;
        }
        for (int rank = 0; rank <= 3; rank++) {
            Due.is("systems of rank " + rank + " were met", ranks[rank] > 0, true);
        }
        for (int kind = 0; kind <= 2; kind++) {
            Due.is("systems with none, several, one solution were met: " + kind, kinds[kind] > 100, true);
        }
        Due.is("unsolvable systems that no m tells were met", hidden > 0, true);
    }

    /** Every matrix whose numbers are all -9 or 9: no system has greater minors. */
    private static void allMatricesOfNines() {
        for (int signs = 0; signs < 512; signs++) {
            int[] a = new int[9];
            for (int i = 0; i < 9; i++) {
                a[i] = (signs >> i & 1) == 0 ? 9 : -9;
            }
            compareBothWays(a, EDGE_RIGHTS[signs % EDGE_RIGHTS.length]);
            // A column of the matrix is a right side that it reaches.
            compareBothWays(a, new int[] {a[0], a[3], a[6]});
        }
    }

    private static NormalForms compareBothWays(int[] a, int[] b) {
        NormalForms forms = Due.system(a, b);
        String name = Arrays.toString(a) + " " + Arrays.toString(b) + " ";
        compare(name, forms, a, b);
        forms.turn();
        compare(name + "turned ", forms, Reference.turned(a), b);
        return forms;
    }

    private static void compare(String name, NormalForms forms, int[] a, int[] b) {
        Due.is(name + "rank()", forms.rank(), Reference.rank(a));
        Due.is(name + "determinant()", forms.determinant(), Reference.determinant(a));
        for (int k = 1; k <= 3; k++) {
            Due.is(name + "invariant(" + k + ")", forms.invariant(k), Reference.invariant(a, k));
        }
        Due.is(name + "solvable()", forms.solvable(), Reference.solvable(a, b));
        for (int m = 1; m <= 12; m++) {
            Due.is(name + "solvableBy(" + m + ")", forms.solvableBy(m), Reference.solvableBy(a, b, m));
            Due.is(name + "nullCount(" + m + ")", forms.nullCount(m), Reference.nullCount(a, m));
            Due.is(name + "imageCount(" + m + ")", forms.imageCount(m), Reference.imageCount(a, m));
        }
        Due.is(name + "firstFailure()", forms.firstFailure(), Reference.firstFailure(a, b));
        for (int c = 0; c < 3; c++) {
            Due.is(name + "only(" + c + ")", forms.only(c), Reference.only(a, b, c));
        }
    }
}
