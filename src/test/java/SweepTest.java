import java.util.Arrays;
import java.util.HashSet;
import java.util.Set;

/**
 * Many systems of every rank, each call held against another way to its answer: row and column
 * steps instead of minors, and lists of images instead of counted solutions.
 */
public final class SweepTest {
    private static final int BAD = -1000000;
    private static final int SYSTEMS = 6000;

    // A fixed sequence, so that every run of the test asks the same.
    private static long state = 20261115L;

    private SweepTest() {
    }

    public static void main(String[] args) {
        int[] ranks = new int[4];
        int[] kinds = new int[3];
        int hidden = 0;
        for (int i = 0; i < SYSTEMS; i++) {
            int[] a = someMatrix(i % 6);
            int[] b = someRight(a, i % 4);
            NormalForms forms = Due.system(a, b);
            String name = Arrays.toString(a) + " " + Arrays.toString(b) + " ";
            compare(name, forms, a, b);
            forms.turn();
            compare(name + "turned ", forms, turned(a), b);
            ranks[forms.rank()]++;
            kinds[forms.only(0) != BAD ? 2 : forms.solvable() ? 1 : 0]++;
            hidden += !forms.solvable() && forms.firstFailure() == 0 ? 1 : 0;
        }
        for (int rank = 0; rank <= 3; rank++) {
            Due.is("systems of rank " + rank + " were met", ranks[rank] > 0, true);
        }
        for (int kind = 0; kind <= 2; kind++) {
            Due.is("systems with none, several, one solution were met: " + kind, kinds[kind] > 100, true);
        }
        Due.is("unsolvable systems that no m tells were met", hidden > 0, true);
        Due.end();
    }

    private static void compare(String name, NormalForms forms, int[] a, int[] b) {
        int[] diagonal = smith(a);
        int rank = 0;
        for (int k = 1; k <= 3; k++) {
            rank += diagonal[k - 1] != 0 ? 1 : 0;
            Due.is(name + "invariant(" + k + ")", forms.invariant(k), diagonal[k - 1]);
        }
        Due.is(name + "rank()", forms.rank(), rank);
        Due.is(name + "determinant()", forms.determinant(), sarrus(a));
        long[] x = solve(a, b);
        Due.is(name + "solvable()", forms.solvable(), x != null);
        for (int c = 0; c < 3; c++) {
            Due.is(name + "only(" + c + ")", forms.only(c), x != null && rank == 3 ? x[c] : BAD);
        }
        compareByRests(name, forms, a, b, diagonal);
    }

    private static void compareByRests(String name, NormalForms forms, int[] a, int[] b, int[] diagonal) {
        int first = 0;
        for (int m = 1; m <= 12; m++) {
            Set<Integer> images = images(a, m);
            int right = place(b[0], b[1], b[2], m);
            boolean reached = images.contains(right);
            if (!reached && first == 0) {
                first = m;
            }
            Due.is(name + "solvableBy(" + m + ")", forms.solvableBy(m), reached ? 1 : 0);
            Due.is(name + "imageCount(" + m + ")", forms.imageCount(m), images.size());
            int nulls = gcd(diagonal[0], m) * gcd(diagonal[1], m) * gcd(diagonal[2], m);
            Due.is(name + "nullCount(" + m + ")", forms.nullCount(m), nulls);
        }
        Due.is(name + "firstFailure()", forms.firstFailure(), first);
    }

    // The systems

    private static int some(int from, int to) {
        state = state * 6364136223846793005L + 1442695040888963407L;
        return from + (int) ((state >>> 33) % (to - from + 1));
    }

    private static int[] someMatrix(int kind) {
        int[] a = new int[9];
        int factor = some(1, 4);
        int[] u = {some(-2, 2), some(-2, 2), some(-2, 2), some(-2, 2), some(-2, 2), some(-2, 2)};
        int[] v = {some(-2, 2), some(-2, 2), some(-2, 2), some(-2, 2), some(-2, 2), some(-2, 2)};
        for (int i = 0; i < 9; i++) {
            int r = i / 3;
            int c = i % 3;
            switch (kind) {
                case 0 -> a[i] = some(-9, 9);
                case 1 -> a[i] = some(-1, 1);
                case 2 -> a[i] = factor * some(-2, 2);
                case 3 -> a[i] = u[r] * v[c] * (factor % 2 + 1);
                case 4 -> a[i] = u[r] * v[c] + u[r + 3] * v[c + 3];
                default -> a[i] = r == c ? some(-9, 9) : some(0, 3) == 0 ? some(-9, 9) : 0;
            }
        }
        return a;
    }

    /** Any right side, or one that a small x reaches if it stays within -9 to 9. */
    private static int[] someRight(int[] a, int kind) {
        int[] b = {some(-9, 9), some(-9, 9), some(-9, 9)};
        if (kind == 0) {
            return b;
        }
        for (int attempt = 0; attempt < 50; attempt++) {
            int[] x = {some(-3, 3), some(-3, 3), some(-3, 3)};
            int[] reached = new int[3];
            boolean fits = true;
            for (int r = 0; r < 3; r++) {
                reached[r] = a[3 * r] * x[0] + a[3 * r + 1] * x[1] + a[3 * r + 2] * x[2];
                fits &= Math.abs(reached[r]) <= 9;
            }
            if (fits) {
                // A right side beside a reached one is what tells solvable from nearly solvable.
                if (kind == 1) {
                    reached[some(0, 2)] = some(-9, 9);
                }
                return reached;
            }
        }
        return b;
    }

    private static int[] turned(int[] a) {
        return new int[] {a[0], a[3], a[6], a[1], a[4], a[7], a[2], a[5], a[8]};
    }

    // The other ways to the answers

    private static int gcd(int a, int b) {
        return b == 0 ? Math.abs(a) : gcd(b, a % b);
    }

    private static int sarrus(int[] a) {
        return a[0] * a[4] * a[8] + a[1] * a[5] * a[6] + a[2] * a[3] * a[7]
            - a[2] * a[4] * a[6] - a[0] * a[5] * a[7] - a[1] * a[3] * a[8];
    }

    private static int place(int first, int second, int third, int m) {
        return Math.floorMod(first, m) * 10000 + Math.floorMod(second, m) * 100 + Math.floorMod(third, m);
    }

    /** All sums of multiples of the columns, by rests: from 0 on, a column is added until nothing new comes. */
    private static Set<Integer> images(int[] a, int m) {
        Set<Integer> reached = new HashSet<>();
        reached.add(0);
        for (int c = 0; c < 3; c++) {
            Set<Integer> wider = new HashSet<>();
            for (int old : reached) {
                for (int times = 0; times < m; times++) {
                    wider.add(place(old / 10000 + times * a[c], old / 100 % 100 + times * a[3 + c],
                        old % 100 + times * a[6 + c], m));
                }
            }
            reached = wider;
        }
        return reached;
    }

    /** The diagonal of the Smith normal form, by row and column steps. */
    private static int[] smith(int[] a) {
        long[][] w = new long[3][3];
        for (int i = 0; i < 9; i++) {
            w[i / 3][i % 3] = a[i];
        }
        for (int t = 0; t < 3; t++) {
            while (bringSmallest(w, t) && !clearCross(w, t)) {
                // Each round makes the smallest number smaller or ends.
                continue;
            }
        }
        return new int[] {(int) Math.abs(w[0][0]), (int) Math.abs(w[1][1]), (int) Math.abs(w[2][2])};
    }

    private static boolean bringSmallest(long[][] w, int t) {
        int row = -1;
        int column = -1;
        for (int r = t; r < 3; r++) {
            for (int c = t; c < 3; c++) {
                if (w[r][c] != 0 && (row < 0 || Math.abs(w[r][c]) < Math.abs(w[row][column]))) {
                    row = r;
                    column = c;
                }
            }
        }
        if (row < 0) {
            return false;
        }
        long[] kept = w[t];
        w[t] = w[row];
        w[row] = kept;
        for (int r = 0; r < 3; r++) {
            long number = w[r][t];
            w[r][t] = w[r][column];
            w[r][column] = number;
        }
        return true;
    }

    /** Whether the cross through (t, t) is clear and its number divides all that remains. */
    private static boolean clearCross(long[][] w, int t) {
        for (int r = t + 1; r < 3; r++) {
            long times = w[r][t] / w[t][t];
            for (int c = 0; c < 3; c++) {
                w[r][c] -= times * w[t][c];
            }
        }
        for (int c = t + 1; c < 3; c++) {
            long times = w[t][c] / w[t][t];
            for (int r = 0; r < 3; r++) {
                w[r][c] -= times * w[r][t];
            }
        }
        for (int i = t + 1; i < 3; i++) {
            if (w[i][t] != 0 || w[t][i] != 0) {
                return false;
            }
        }
        for (int r = t + 1; r < 3; r++) {
            for (int c = t + 1; c < 3; c++) {
                if (w[r][c] % w[t][t] != 0) {
                    for (int i = 0; i < 3; i++) {
                        w[t][i] += w[r][i];
                    }
                    return false;
                }
            }
        }
        return true;
    }

    /** A solution, or null: columns are brought to steps, and the right side is taken off by them. */
    private static long[] solve(int[] a, int[] b) {
        // Three numbers of a column of the matrix, then what list of unknowns makes that column.
        long[][] columns = new long[3][6];
        for (int c = 0; c < 3; c++) {
            for (int r = 0; r < 3; r++) {
                columns[c][r] = a[3 * r + c];
            }
            columns[c][3 + c] = 1;
        }
        long[] rest = {b[0], b[1], b[2], 0, 0, 0};
        int free = 0;
        for (int r = 0; r < 3; r++) {
            if (free < 3 && bringStep(columns, free, r)) {
                long times = rest[r] / columns[free][r];
                subtract(rest, columns[free], times);
                free++;
            }
            if (rest[r] != 0) {
                return null;
            }
        }
        long[] x = {-rest[3], -rest[4], -rest[5]};
        for (int r = 0; r < 3; r++) {
            long sum = a[3 * r] * x[0] + a[3 * r + 1] * x[1] + a[3 * r + 2] * x[2];
            Due.is("the test's own solution, row " + r, sum, b[r]);
        }
        return x;
    }

    /** Whether the columns from free on have a number in row r; then only the first of them keeps one. */
    private static boolean bringStep(long[][] columns, int free, int r) {
        for (int c = free + 1; c < 3; c++) {
            while (columns[c][r] != 0) {
                subtract(columns[free], columns[c], columns[free][r] / columns[c][r]);
                long[] kept = columns[free];
                columns[free] = columns[c];
                columns[c] = kept;
            }
        }
        return columns[free][r] != 0;
    }

    private static void subtract(long[] from, long[] what, long times) {
        for (int i = 0; i < from.length; i++) {
            from[i] -= times * what[i];
        }
    }
}
