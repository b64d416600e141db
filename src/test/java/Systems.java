/** Matrices and right sides of every kind, from a fixed sequence, so that every run of a test asks the same. */
final class Systems {
    static final int KINDS = 8;

    private static long state = 20261115L;

    private Systems() {
    }

    static int some(int from, int to) {
        state = state * 6364136223846793005L + 1442695040888963407L;
        return from + (int) ((state >>> 33) % (to - from + 1));
    }

    /** A matrix of the kind 0 to KINDS - 1; 3 and 4 are of low rank, 5 and 6 stand at the greatest numbers. */
    static int[] someMatrix(int kind) {
        int[] a = new int[9];
        int factor = some(1, 4);
        int[] u = {some(-2, 2), some(-2, 2), some(-2, 2), some(-2, 2), some(-2, 2), some(-2, 2)};
        int[] v = {some(-2, 2), some(-2, 2), some(-2, 2), some(-2, 2), some(-2, 2), some(-2, 2)};
        for (int i = 0; i < 9; i++) {
            int r = i / 3;
            int c = i % 3;
            switch (kind) {
                case 0 -> a[i] = some(-9, 9);
                case 1 -> a[i] = some(-1, 1);
                case 2 -> a[i] = factor * some(-2, 2);
                case 3 -> a[i] = u[r] * v[c] * (factor % 2 + 1);
                case 4 -> a[i] = u[r] * v[c] + u[r + 3] * v[c + 3];
                case 5 -> a[i] = 9 * some(-1, 1);
                case 6 -> a[i] = 18 * some(0, 1) - 9;
                default -> a[i] = r == c ? some(-9, 9) : some(0, 3) == 0 ? some(-9, 9) : 0;
            }
        }
        return a;
    }

    /** Any right side, or one that a small x reaches if it stays within -9 to 9. */
    static int[] someRight(int[] a, int kind) {
        int[] b = {some(-9, 9), some(-9, 9), some(-9, 9)};
        if (kind == 0) {
            return b;
        }
        for (int attempt = 0; attempt < 50; attempt++) {
            int[] x = {some(-3, 3), some(-3, 3), some(-3, 3)};
            int[] reached = new int[3];
            boolean fits = true;
            for (int r = 0; r < 3; r++) {
                reached[r] = a[3 * r] * x[0] + a[3 * r + 1] * x[1] + a[3 * r + 2] * x[2];
                fits &= Math.abs(reached[r]) <= 9;
            }
            if (fits) {
                // A right side beside a reached one is what tells solvable from nearly solvable.
                if (kind == 1) {
                    reached[some(0, 2)] = some(-9, 9);
                }
                return reached;
            }
        }
        return b;
    }
}
