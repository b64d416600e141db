/** Whole-number systems of three equations in three unknowns, by normal forms. */
public final class NormalForms {
    public static final int BAD = -1000000;

    private static final int SIZE = 3;
    // The right side stands as a fourth column beside the matrix, so that the
    // minors of the widened matrix are found by the same methods.
    private static final int WIDTH = 4;
    private static final int RIGHT = 3;
    private static final int CELLS = 12;

    private static final int GREATEST_VALUE = 9;
    private static final int GREATEST_MODULUS = 12;
    // GREATEST_MODULUS to the third: as many lists of rests as there can be.
    private static final int LISTS = 1728;

    // No minor is above 4374, so that Euclid's steps stay below 20.
    private static final int EUCLID_STEPS = 1000000;

    private final int[] cells = new int[CELLS];
    private final boolean[] seen = new boolean[LISTS];

    public NormalForms() {
    }

    public boolean set(int r, int c, int value) {
        if (!isPlace(r) || !isPlace(c) || !isValue(value)) {
            return false;
        }
        cells[r * WIDTH + c] = value;
        return true;
    }

    public boolean setRight(int r, int value) {
        if (!isPlace(r) || !isValue(value)) {
            return false;
        }
        cells[r * WIDTH + RIGHT] = value;
        return true;
    }

    public void turn() {
        for (int r = 0; r < SIZE; r++) {
            for (int c = 0; c < r; c++) {
                int kept = cells[r * WIDTH + c];
                cells[r * WIDTH + c] = cells[c * WIDTH + r];
                cells[c * WIDTH + r] = kept;
            }
        }
    }

    public int rank() {
        return rankOfFirst(SIZE);
    }

    public int determinant() {
        return minorOfThree(0, 1, 2);
    }

    public int invariant(int k) {
        if (k < 1 || k > SIZE) {
            return BAD;
        }
        int upper = divisor(k, SIZE);
        int lower = divisor(k - 1, SIZE);
        // A minor is a sum of multiples of smaller ones, so a lower of 0 comes
        // only with an upper of 0, and that is a k above the rank.
        if (upper == 0 || lower == 0) {
            return 0;
        }
        return upper / lower;
    }

    // There is a solution just when widening the matrix by the right side
    // changes neither the rank nor the divisor of the minors of that size.
    public boolean solvable() {
        int size = rankOfFirst(SIZE);
        if (rankOfFirst(WIDTH) != size) {
            return false;
        }
        return divisor(size, SIZE) == divisor(size, WIDTH);
    }

    public int solvableBy(int m) {
        if (!isModulus(m)) {
            return BAD;
        }
        return countSolutions(m, 1) > 0 ? 1 : 0;
    }

    public int nullCount(int m) {
        if (!isModulus(m)) {
            return BAD;
        }
        return countSolutions(m, 0);
    }

    public int imageCount(int m) {
        if (!isModulus(m)) {
            return BAD;
        }
        forgetSeen();
        int count = 0;
        // Only the rests of x matter, so x from 0 to m - 1 give every image.
        for (int x = 0; x < m; x++) {
            for (int y = 0; y < m; y++) {
                for (int z = 0; z < m; z++) {
                    int image = imageNumber(x, y, z, m);
                    if (!seen[image]) {
                        seen[image] = true;
                        count++;
                    }
                }
            }
        }
        return count;
    }

    public int firstFailure() {
        for (int m = 1; m <= GREATEST_MODULUS; m++) {
            if (solvableBy(m) == 0) {
                return m;
            }
        }
        return 0;
    }

    public int only(int c) {
        if (!isPlace(c)) {
            return BAD;
        }
        int whole = minorOfThree(0, 1, 2);
        // With a determinant of 0 a solution is never the only one.
        if (whole == 0) {
            return BAD;
        }
        // Cramer's rule gives the one solution by fractions: all three must be whole.
        int x = minorOfThree(RIGHT, 1, 2);
        int y = minorOfThree(0, RIGHT, 2);
        int z = minorOfThree(0, 1, RIGHT);
        if (x % whole != 0 || y % whole != 0 || z % whole != 0) {
            return BAD;
        }
        int asked = c == 0 ? x : c == 1 ? y : z;
        return asked / whole;
    }

    private static boolean isPlace(int place) {
        return place >= 0 && place < SIZE;
    }

    private static boolean isValue(int value) {
        return value >= -GREATEST_VALUE && value <= GREATEST_VALUE;
    }

    private static boolean isModulus(int m) {
        return m >= 1 && m <= GREATEST_MODULUS;
    }

    /** The rank of the first so many columns of the widened matrix. */
    private int rankOfFirst(int columns) {
        for (int k = SIZE; k >= 1; k--) {
            if (divisor(k, columns) != 0) {
                return k;
            }
        }
        return 0;
    }

    /** D(k) of the first so many columns of the widened matrix; 0 if all minors of size k are 0. */
    private int divisor(int k, int columns) {
        switch (k) {
            case 1:
                return divisorOfOnes(columns);
            case 2:
                return divisorOfTwos(columns);
            case 3:
                return divisorOfThrees(columns);
            default:
                return 1;
        }
    }

    private int divisorOfOnes(int columns) {
        int common = 0;
        for (int r = 0; r < SIZE; r++) {
            for (int c = 0; c < columns; c++) {
                common = commonDivisor(common, cells[r * WIDTH + c]);
            }
        }
        return common;
    }

    private int divisorOfTwos(int columns) {
        int common = 0;
        for (int r = 0; r < SIZE; r++) {
            for (int s = r + 1; s < SIZE; s++) {
                for (int c = 0; c < columns; c++) {
                    for (int d = c + 1; d < columns; d++) {
                        int minor = minorOfTwo(r, s, c, d);
                        common = commonDivisor(common, minor);
                    }
                }
            }
        }
        return common;
    }

    private int divisorOfThrees(int columns) {
        int common = 0;
        for (int c = 0; c < columns; c++) {
            for (int d = c + 1; d < columns; d++) {
                for (int e = d + 1; e < columns; e++) {
                    int minor = minorOfThree(c, d, e);
                    common = commonDivisor(common, minor);
                }
            }
        }
        return common;
    }

    /** The determinant of what the rows r, s and the columns c, d have in common. */
    private int minorOfTwo(int r, int s, int c, int d) {
        return cells[r * WIDTH + c] * cells[s * WIDTH + d]
            - cells[r * WIDTH + d] * cells[s * WIDTH + c];
    }

    /** The determinant of the columns c, d, e, in this order. */
    private int minorOfThree(int c, int d, int e) {
        int first = cells[WIDTH + d] * cells[2 * WIDTH + e] - cells[WIDTH + e] * cells[2 * WIDTH + d];
        int second = cells[WIDTH + c] * cells[2 * WIDTH + e] - cells[WIDTH + e] * cells[2 * WIDTH + c];
        int third = cells[WIDTH + c] * cells[2 * WIDTH + d] - cells[WIDTH + d] * cells[2 * WIDTH + c];
        return cells[c] * first - cells[d] * second + cells[e] * third;
    }

    /** The greatest common divisor, never below 0; 0 only for two zeros. */
    private static int commonDivisor(int a, int b) {
        int large = a < 0 ? -a : a;
        int small = b < 0 ? -b : b;
        for (int step = 0; step < EUCLID_STEPS && small != 0; step++) {
            int rest = large % small;
            large = small;
            small = rest;
        }
        return large;
    }

    /** How many lists x from 0 to m - 1 have A x = times * b by rests on division by m. */
    private int countSolutions(int m, int times) {
        int count = 0;
        for (int x = 0; x < m; x++) {
            for (int y = 0; y < m; y++) {
                for (int z = 0; z < m; z++) {
                    if (isSolution(x, y, z, m, times)) {
                        count++;
                    }
                }
            }
        }
        return count;
    }

    private boolean isSolution(int x, int y, int z, int m, int times) {
        for (int r = 0; r < SIZE; r++) {
            int excess = rowSum(r, x, y, z) - times * cells[r * WIDTH + RIGHT];
            if (excess % m != 0) {
                return false;
            }
        }
        return true;
    }

    private int rowSum(int r, int x, int y, int z) {
        return cells[r * WIDTH] * x + cells[r * WIDTH + 1] * y + cells[r * WIDTH + 2] * z;
    }

    /** The three rests of A x, read as the digits of one number to the base m. */
    private int imageNumber(int x, int y, int z, int m) {
        int number = 0;
        for (int r = 0; r < SIZE; r++) {
            int rest = rowSum(r, x, y, z) % m;
            // Java's rest of a number below 0 is not above 0.
            if (rest < 0) {
                rest += m;
            }
            number = number * m + rest;
        }
        return number;
    }

    private void forgetSeen() {
        for (int i = 0; i < LISTS; i++) {
            seen[i] = false;
        }
    }
}
