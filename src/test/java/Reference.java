/** The due answers, found by other ways than the program's: row and column steps and sets of images, no minors. */
final class Reference {
    static final int BAD = -1000000;

    private Reference() {
    }

    // The answers, for a matrix a, row by row, and a right side b

    static int[] turned(int[] a) {
        return new int[] {a[0], a[3], a[6], a[1], a[4], a[7], a[2], a[5], a[8]};
    }

    static int rank(int[] a) {
        int rank = 0;
        for (int number : smith(a)) {
            rank += number != 0 ? 1 : 0;
        }
        return rank;
    }

    static int determinant(int[] a) {
        return a[0] * a[4] * a[8] + a[1] * a[5] * a[6] + a[2] * a[3] * a[7]
            - a[2] * a[4] * a[6] - a[0] * a[5] * a[7] - a[1] * a[3] * a[8];
    }

    static int invariant(int[] a, int k) {
        return k < 1 || k > 3 ? BAD : smith(a)[k - 1];
    }

    static boolean solvable(int[] a, int[] b) {
        return solve(a, b) != null;
    }

    static int solvableBy(int[] a, int[] b, int m) {
        if (m < 1 || m > 12) {
            return BAD;
        }
        return images(a, m)[place(b[0], b[1], b[2], m)] ? 1 : 0;
    }

    static int nullCount(int[] a, int m) {
        if (m < 1 || m > 12) {
            return BAD;
        }
        int count = 1;
        for (int number : smith(a)) {
            count *= gcd(number, m);
        }
        return count;
    }

    static int imageCount(int[] a, int m) {
        if (m < 1 || m > 12) {
            return BAD;
        }
        int count = 0;
        for (boolean reached : images(a, m)) {
            count += reached ? 1 : 0;
        }
        return count;
    }

    static int firstFailure(int[] a, int[] b) {
        for (int m = 1; m <= 12; m++) {
            if (solvableBy(a, b, m) == 0) {
                return m;
            }
        }
        return 0;
    }

    static int only(int[] a, int[] b, int c) {
        long[] x = solve(a, b);
        return c < 0 || c > 2 || x == null || rank(a) < 3 ? BAD : (int) x[c];
    }

    // The ways to them

    private static int gcd(int a, int b) {
        return b == 0 ? Math.abs(a) : gcd(b, a % b);
    }

    private static int place(int first, int second, int third, int m) {
        return (Math.floorMod(first, m) * m + Math.floorMod(second, m)) * m + Math.floorMod(third, m);
    }

    /** Which sums of multiples of the columns there are, by rests: every column is added up to m - 1 times. */
    private static boolean[] images(int[] a, int m) {
        boolean[] reached = new boolean[m * m * m];
        reached[0] = true;
        for (int c = 0; c < 3; c++) {
            boolean[] wider = new boolean[m * m * m];
            for (int old = 0; old < reached.length; old++) {
                for (int times = 0; reached[old] && times < m; times++) {
                    wider[place(old / m / m + times * a[c], old / m % m + times * a[3 + c],
                        old % m + times * a[6 + c], m)] = true;
                }
            }
            reached = wider;
        }
        return reached;
    }

    /** The diagonal of the Smith normal form, by row and column steps. */
    private static int[] smith(int[] a) {
        long[][] w = new long[3][3];
        for (int i = 0; i < 9; i++) {
            w[i / 3][i % 3] = a[i];
        }
        for (int t = 0; t < 3; t++) {
            while (bringSmallest(w, t) && !clearCross(w, t)) {
                // Each round makes the smallest number smaller or ends.
                continue;
            }
        }
        return new int[] {(int) Math.abs(w[0][0]), (int) Math.abs(w[1][1]), (int) Math.abs(w[2][2])};
    }

    private static boolean bringSmallest(long[][] w, int t) {
        int row = -1;
        int column = -1;
        for (int r = t; r < 3; r++) {
            for (int c = t; c < 3; c++) {
                if (w[r][c] != 0 && (row < 0 || Math.abs(w[r][c]) < Math.abs(w[row][column]))) {
                    row = r;
                    column = c;
                }
            }
        }
        if (row < 0) {
            return false;
        }
        long[] kept = w[t];
        w[t] = w[row];
        w[row] = kept;
        for (int r = 0; r < 3; r++) {
            long number = w[r][t];
            w[r][t] = w[r][column];
            w[r][column] = number;
        }
        return true;
    }

    /** Whether the cross through (t, t) is clear and its number divides all that remains. */
    private static boolean clearCross(long[][] w, int t) {
        for (int r = t + 1; r < 3; r++) {
            long times = w[r][t] / w[t][t];
            for (int c = 0; c < 3; c++) {
                w[r][c] -= times * w[t][c];
            }
        }
        for (int c = t + 1; c < 3; c++) {
            long times = w[t][c] / w[t][t];
            for (int r = 0; r < 3; r++) {
                w[r][c] -= times * w[r][t];
            }
        }
        for (int i = t + 1; i < 3; i++) {
            if (w[i][t] != 0 || w[t][i] != 0) {
                return false;
            }
        }
        for (int r = t + 1; r < 3; r++) {
            for (int c = t + 1; c < 3; c++) {
                if (w[r][c] % w[t][t] != 0) {
                    for (int i = 0; i < 3; i++) {
                        w[t][i] += w[r][i];
                    }
                    return false;
                }
            }
        }
        return true;
    }

    /** A solution, or null: columns are brought to steps, and the right side is taken off by them. */
    private static long[] solve(int[] a, int[] b) {
        // Three numbers of a column of the matrix, then what list of unknowns makes that column.
        long[][] columns = new long[3][6];
        for (int c = 0; c < 3; c++) {
            for (int r = 0; r < 3; r++) {
                columns[c][r] = a[3 * r + c];
            }
            columns[c][3 + c] = 1;
        }
        long[] rest = {b[0], b[1], b[2], 0, 0, 0};
        int free = 0;
        for (int r = 0; r < 3; r++) {
            if (free < 3 && bringStep(columns, free, r)) {
                long times = rest[r] / columns[free][r];
                subtract(rest, columns[free], times);
                free++;
            }
            if (rest[r] != 0) {
                return null;
            }
        }
        long[] x = {-rest[3], -rest[4], -rest[5]};
        for (int r = 0; r < 3; r++) {
            long sum = a[3 * r] * x[0] + a[3 * r + 1] * x[1] + a[3 * r + 2] * x[2];
            Due.is("the test's own solution, row " + r, sum, b[r]);
        }
        return x;
    }

    /** Whether the columns from free on have a number in row r; then only the first of them keeps one. */
    private static boolean bringStep(long[][] columns, int free, int r) {
        for (int c = free + 1; c < 3; c++) {
            while (columns[c][r] != 0) {
                subtract(columns[free], columns[c], columns[free][r] / columns[c][r]);
                long[] kept = columns[free];
                columns[free] = columns[c];
                columns[c] = kept;
            }
        }
        return columns[free][r] != 0;
    }

    private static void subtract(long[] from, long[] what, long times) {
        for (int i = 0; i < from.length; i++) {
            from[i] -= times * what[i];
        }
    }
}
