/** Each promise by its own examples: ordinary inputs, the edges, and wrong inputs. */
public final class PromisesTest {
    private static final int BAD = -1000000;
    private static final int[] NONE = {0, 0, 0};
    private static final int[] WRONG_PLACES = {-1, 3, 4, -3, 100, Integer.MIN_VALUE, Integer.MAX_VALUE};
    private static final int[] WRONG_VALUES = {-10, 10, 11, -100, Integer.MIN_VALUE, Integer.MAX_VALUE};
    private static final int[] WRONG_MODULI = {0, -1, 13, 14, -12, Integer.MIN_VALUE, Integer.MAX_VALUE};

    private PromisesTest() {
    }

    public static void main(String[] args) {
        Due.begin();
        newObject();
        set();
        setRefuses();
        setRight();
        setRightRefuses();
        turn();
        rank();
        determinant();
        invariant();
        solvable();
        solvableBy();
        nullCount();
        imageCount();
        firstFailure();
        only();
        wrongArguments();
        askingChangesNothing();
        objectsAreApart();
        Due.end();
    }

    private static int[] numbers(int... list) {
        return list;
    }

    private static NormalForms matrix(int... a) {
        return Due.system(a, NONE);
    }

    // Promise 1

    private static void newObject() {
        Due.is("BAD", NormalForms.BAD, BAD);
        NormalForms forms = new NormalForms();
        Due.is("new: rank()", forms.rank(), 0);
        Due.is("new: determinant()", forms.determinant(), 0);
        for (int k = 1; k <= 3; k++) {
            Due.is("new: invariant(" + k + ")", forms.invariant(k), 0);
        }
        Due.is("new: solvable()", forms.solvable(), true);
        Due.is("new: firstFailure()", forms.firstFailure(), 0);
        for (int m = 1; m <= 12; m++) {
            Due.is("new: solvableBy(" + m + ")", forms.solvableBy(m), 1);
            Due.is("new: nullCount(" + m + ")", forms.nullCount(m), m * m * m);
            Due.is("new: imageCount(" + m + ")", forms.imageCount(m), 1);
        }
        for (int c = 0; c < 3; c++) {
            Due.is("new: only(" + c + ")", forms.only(c), BAD);
        }
    }

    // Promise 2

    private static void set() {
        // A number alone in the matrix is its first invariant, whatever its sign.
        for (int r = 0; r < 3; r++) {
            for (int c = 0; c < 3; c++) {
                for (int value = -9; value <= 9; value++) {
                    NormalForms forms = new NormalForms();
                    String call = "set(" + r + ", " + c + ", " + value + ")";
                    Due.is(call, forms.set(r, c, value), true);
                    Due.is(call + " rank()", forms.rank(), value == 0 ? 0 : 1);
                    Due.is(call + " invariant(1)", forms.invariant(1), Math.abs(value));
                }
            }
        }
        NormalForms forms = matrix(1, 0, 0, 0, 1, 0, 0, 0, 1);
        Due.is("set again", forms.set(1, 1, -9), true);
        Due.is("set again: determinant()", forms.determinant(), -9);
        Due.is("set to 0", forms.set(1, 1, 0), true);
        Due.is("set to 0: rank()", forms.rank(), 2);
    }

    private static void setRefuses() {
        NormalForms forms = Due.system(numbers(2, 0, 0, 0, 3, 0, 0, 0, 5), numbers(2, 3, 5));
        for (int wrong : WRONG_PLACES) {
            for (int right = 0; right < 3; right++) {
                Due.is("set(" + wrong + ", " + right + ", 7)", forms.set(wrong, right, 7), false);
                Due.is("set(" + right + ", " + wrong + ", 7)", forms.set(right, wrong, 7), false);
            }
            Due.is("set(" + wrong + ", " + wrong + ", 7)", forms.set(wrong, wrong, 7), false);
        }
        for (int wrong : WRONG_VALUES) {
            for (int i = 0; i < 9; i++) {
                Due.is("set(" + i / 3 + ", " + i % 3 + ", " + wrong + ")", forms.set(i / 3, i % 3, wrong), false);
            }
        }
        isUnchanged("refused set", forms);
    }

    private static void isUnchanged(String after, NormalForms forms) {
        Due.is(after + ": determinant()", forms.determinant(), 30);
        Due.is(after + ": invariant(3)", forms.invariant(3), 30);
        Due.is(after + ": nullCount(6)", forms.nullCount(6), 6);
        for (int c = 0; c < 3; c++) {
            Due.is(after + ": only(" + c + ")", forms.only(c), 1);
        }
    }

    // Promise 3

    private static void setRight() {
        for (int r = 0; r < 3; r++) {
            for (int value = -9; value <= 9; value++) {
                NormalForms forms = matrix(1, 0, 0, 0, 1, 0, 0, 0, 1);
                Due.is("setRight(" + r + ", " + value + ")", forms.setRight(r, value), true);
                for (int c = 0; c < 3; c++) {
                    Due.is("setRight(" + r + ", " + value + ") only(" + c + ")", forms.only(c), c == r ? value : 0);
                }
                Due.is("setRight: determinant()", forms.determinant(), 1);
            }
        }
    }

    private static void setRightRefuses() {
        NormalForms forms = Due.system(numbers(2, 0, 0, 0, 3, 0, 0, 0, 5), numbers(2, 3, 5));
        for (int wrong : WRONG_PLACES) {
            Due.is("setRight(" + wrong + ", 4)", forms.setRight(wrong, 4), false);
        }
        for (int wrong : WRONG_VALUES) {
            for (int r = 0; r < 3; r++) {
                Due.is("setRight(" + r + ", " + wrong + ")", forms.setRight(r, wrong), false);
            }
        }
        isUnchanged("refused setRight", forms);
    }

    // Promise 4

    private static void turn() {
        // The matrix has the determinant 1; its rows times (1, 2, -1) are 1, 2, 0 and its columns 3, 4, 6.
        NormalForms forms = Due.system(numbers(1, 1, 2, 1, 2, 3, 0, 1, 2), numbers(1, 2, 0));
        onlyIs("before turn", forms, 1, 2, -1);
        forms.turn();
        Due.is("turned: determinant()", forms.determinant(), 1);
        Due.is("the right side stays", forms.solvable(), true);
        Due.fill(forms, numbers(1, 1, 0, 1, 2, 1, 2, 3, 2), numbers(3, 4, 6));
        onlyIs("written out", forms, 1, 2, -1);
        NormalForms other = Due.system(numbers(1, 1, 2, 1, 2, 3, 0, 1, 2), numbers(3, 4, 6));
        other.turn();
        onlyIs("turned", other, 1, 2, -1);
        other.turn();
        Due.fill(forms, numbers(1, 1, 2, 1, 2, 3, 0, 1, 2), numbers(3, 4, 6));
        for (int c = 0; c < 3; c++) {
            Due.is("turned twice: only(" + c + ")", other.only(c), forms.only(c));
        }
        turnMovesEveryNumber();
    }

    private static void onlyIs(String when, NormalForms forms, int x, int y, int z) {
        Due.is(when + ": only(0)", forms.only(0), x);
        Due.is(when + ": only(1)", forms.only(1), y);
        Due.is(when + ": only(2)", forms.only(2), z);
    }

    private static void turnMovesEveryNumber() {
        for (int r = 0; r < 3; r++) {
            for (int c = 0; c < 3; c++) {
                NormalForms forms = new NormalForms();
                forms.set(r, c, 1);
                forms.turn();
                // A 1 at (c, r) reaches just the right sides that are 0 outside row c.
                for (int row = 0; row < 3; row++) {
                    forms.setRight(row, 1);
                    Due.is("turned (" + r + ", " + c + "), row " + row, forms.solvable(), row == c);
                    forms.setRight(row, 0);
                }
                Due.is("turned (" + r + ", " + c + ") set away", forms.set(c, r, 0), true);
                Due.is("turned (" + r + ", " + c + ") rank()", forms.rank(), 0);
            }
        }
    }

    // Promise 5

    private static void rank() {
        Due.is("rank of zeros", matrix(0, 0, 0, 0, 0, 0, 0, 0, 0).rank(), 0);
        Due.is("rank of equal rows", matrix(1, 2, 3, 1, 2, 3, 1, 2, 3).rank(), 1);
        Due.is("rank of multiples", matrix(1, -2, 3, -3, 6, -9, 2, -4, 6).rank(), 1);
        Due.is("rank of 1 to 9", matrix(1, 2, 3, 4, 5, 6, 7, 8, 9).rank(), 2);
        Due.is("rank of all but 1 of unity", matrix(1, 0, 0, 0, 0, 0, 0, 0, 1).rank(), 2);
        Due.is("rank of a corner pair", matrix(0, 0, 0, 0, 0, 5, 0, 7, 0).rank(), 2);
        Due.is("rank of unity", matrix(1, 0, 0, 0, 1, 0, 0, 0, 1).rank(), 3);
        Due.is("rank of -9, 9", matrix(9, 9, 9, 9, -9, 9, 9, 9, -9).rank(), 3);
        NormalForms forms = Due.system(numbers(1, 0, 0, 0, 0, 0, 0, 0, 0), numbers(0, 1, 0));
        Due.is("rank does not count the right side", forms.rank(), 1);
        rankOfEachPair();
    }

    private static void rankOfEachPair() {
        for (int i = 0; i < 9; i++) {
            for (int j = i + 1; j < 9; j++) {
                NormalForms forms = new NormalForms();
                forms.set(i / 3, i % 3, 4);
                forms.set(j / 3, j % 3, 6);
                boolean apart = i / 3 != j / 3 && i % 3 != j % 3;
                Due.is("rank of 4 at " + i + ", 6 at " + j, forms.rank(), apart ? 2 : 1);
                Due.is("invariant(1) of 4 at " + i + ", 6 at " + j, forms.invariant(1), 2);
                Due.is("invariant(2) of 4 at " + i + ", 6 at " + j, forms.invariant(2), apart ? 12 : 0);
            }
        }
    }

    // Promise 6

    private static void determinant() {
        Due.is("determinant of unity", matrix(1, 0, 0, 0, 1, 0, 0, 0, 1).determinant(), 1);
        Due.is("determinant of two rows exchanged", matrix(0, 1, 0, 1, 0, 0, 0, 0, 1).determinant(), -1);
        Due.is("determinant of rows in a ring", matrix(0, 2, 0, 0, 0, 3, 5, 0, 0).determinant(), 30);
        Due.is("determinant of the other ring", matrix(0, 0, 2, 3, 0, 0, 0, 5, 0).determinant(), 30);
        Due.is("determinant of the other diagonal", matrix(0, 0, 2, 0, 3, 0, 5, 0, 0).determinant(), -30);
        Due.is("determinant", matrix(2, -3, 1, 2, 0, -1, 1, 4, 5).determinant(), 49);
        Due.is("determinant of 1 to 9", matrix(1, 2, 3, 4, 5, 6, 7, 8, 9).determinant(), 0);
        Due.is("greatest determinant", matrix(-9, 9, 9, 9, -9, 9, 9, 9, -9).determinant(), 2916);
        Due.is("smallest determinant", matrix(9, -9, -9, -9, 9, -9, -9, -9, 9).determinant(), -2916);
        NormalForms forms = Due.system(numbers(1, 0, 0, 0, 1, 0, 0, 0, 1), numbers(7, 8, 9));
        Due.is("determinant does not count the right side", forms.determinant(), 1);
    }

    // Promise 7

    private static void invariant() {
        invariantsAre(matrix(2, 0, 0, 0, 3, 0, 0, 0, 5), 1, 1, 30);
        invariantsAre(matrix(6, 0, 0, 0, 9, 0, 0, 0, 4), 1, 6, 36);
        invariantsAre(matrix(-9, 9, 9, 9, -9, 9, 9, 9, -9), 9, 18, 18);
        invariantsAre(matrix(1, 2, 3, 4, 5, 6, 7, 8, 9), 1, 3, 0);
        invariantsAre(matrix(-4, 8, -4, 8, 0, 8, -4, 8, -4), 4, 16, 0);
        invariantsAre(matrix(0, 0, 0, 0, -7, 0, 0, 0, 0), 7, 0, 0);
        invariantsAre(matrix(0, 0, 0, 0, 0, 0, 0, 0, 0), 0, 0, 0);
        invariantsAre(matrix(0, 0, -8, 0, -4, 0, -2, 0, 0), 2, 4, 8);
        NormalForms forms = Due.system(numbers(4, 0, 0, 0, 4, 0, 0, 0, 4), numbers(1, 1, 1));
        invariantsAre(forms, 4, 4, 4);
    }

    private static void invariantsAre(NormalForms forms, int first, int second, int third) {
        Due.is("invariant(1)", forms.invariant(1), first);
        Due.is("invariant(2)", forms.invariant(2), second);
        Due.is("invariant(3)", forms.invariant(3), third);
    }

    // Promise 8

    private static void solvable() {
        solvableIs(true, numbers(0, 0, 0, 0, 0, 0, 0, 0, 0), 0, 0, 0);
        solvableIs(false, numbers(0, 0, 0, 0, 0, 0, 0, 0, 0), 0, 0, -1);
        solvableIs(true, numbers(2, 0, 0, 0, 3, 0, 0, 0, 5), 8, -9, 5);
        solvableIs(false, numbers(2, 0, 0, 0, 3, 0, 0, 0, 5), 8, -9, 4);
        // One row: 6 x + 9 y makes just the multiples of 3.
        solvableIs(true, numbers(6, 9, 0, 0, 0, 0, 0, 0, 0), 3, 0, 0);
        solvableIs(true, numbers(6, 9, 0, 0, 0, 0, 0, 0, 0), -9, 0, 0);
        solvableIs(false, numbers(6, 9, 0, 0, 0, 0, 0, 0, 0), 4, 0, 0);
        solvableIs(false, numbers(6, 9, 0, 0, 0, 0, 0, 0, 0), 3, 0, 1);
        // Rows that agree by fractions, and rows that do not.
        solvableIs(true, numbers(1, 2, 3, 2, 4, 6, 3, 6, 9), 2, 4, 6);
        solvableIs(false, numbers(1, 2, 3, 2, 4, 6, 3, 6, 9), 2, 4, 5);
        solvableIs(false, numbers(2, 4, 6, 2, 4, 6, 3, 6, 9), 2, 2, 4);
        // Of rank 2 and solvable by fractions, but the second unknown would be a half.
        solvableIs(false, numbers(1, 1, 0, 1, -1, 0, 0, 0, 0), 1, 0, 0);
        solvableIs(true, numbers(1, 1, 0, 1, -1, 0, 0, 0, 0), 1, 1, 0);
        solvableIs(true, numbers(1, 2, 3, 4, 5, 6, 7, 8, 9), 1, 1, 1);
        solvableIs(false, numbers(1, 2, 3, 4, 5, 6, 7, 8, 9), 0, 1, 2);
        solvableIs(true, numbers(1, 2, 3, 4, 5, 6, 7, 8, 9), 0, 3, 6);
    }

    private static void solvableIs(boolean want, int[] a, int... b) {
        Due.is("solvable()", Due.system(a, b).solvable(), want);
    }

    // Promise 9

    private static void solvableBy() {
        // 6 x makes 4 on division by m just when the greatest common divisor of 6 and m divides 4.
        NormalForms forms = Due.system(numbers(6, 0, 0, 0, 0, 0, 0, 0, 0), numbers(4, 0, 0));
        int[] want = {1, 1, 0, 1, 1, 0, 1, 1, 0, 1, 1, 0};
        for (int m = 1; m <= 12; m++) {
            Due.is("6 x = 4: solvableBy(" + m + ")", forms.solvableBy(m), want[m - 1]);
        }
        // Each row is solvable alone, but no x serves all.
        NormalForms rows = Due.system(numbers(1, 0, 0, 1, 0, 0, 0, 0, 0), numbers(1, -6, 0));
        for (int m = 1; m <= 12; m++) {
            Due.is("x = 1 = -6: solvableBy(" + m + ")", rows.solvableBy(m), m == 1 || m == 7 ? 1 : 0);
        }
        NormalForms below = Due.system(numbers(-1, 0, 0, 0, -5, 0, 0, 0, -7), numbers(-9, -5, 7));
        for (int m = 1; m <= 12; m++) {
            Due.is("numbers below 0: solvableBy(" + m + ")", below.solvableBy(m), 1);
        }
    }

    // Promise 10

    private static void nullCount() {
        NormalForms forms = matrix(2, 0, 0, 0, -3, 0, 0, 0, 4);
        int[] want = {1, 4, 3, 8, 1, 12, 1, 8, 3, 4, 1, 24};
        for (int m = 1; m <= 12; m++) {
            Due.is("2, -3, 4: nullCount(" + m + ")", forms.nullCount(m), want[m - 1]);
        }
        Due.is("nullCount(12) of 1 row", matrix(0, 0, 0, 1, 1, 1, 0, 0, 0).nullCount(12), 144);
        Due.is("nullCount(12) of 6s", matrix(6, 6, 6, 6, 6, 6, 6, 6, 6).nullCount(12), 864);
        NormalForms right = Due.system(numbers(2, 0, 0, 0, -3, 0, 0, 0, 4), numbers(1, 1, 1));
        Due.is("nullCount does not count the right side", right.nullCount(12), 24);
    }

    // Promise 11

    private static void imageCount() {
        NormalForms forms = matrix(2, 0, 0, 0, -3, 0, 0, 0, 4);
        int[] want = {1, 2, 9, 8, 125, 18, 343, 64, 243, 250, 1331, 72};
        for (int m = 1; m <= 12; m++) {
            Due.is("2, -3, 4: imageCount(" + m + ")", forms.imageCount(m), want[m - 1]);
        }
        for (int m = 12; m >= 1; m--) {
            Due.is("asked again: imageCount(" + m + ")", forms.imageCount(m), want[m - 1]);
        }
        Due.is("imageCount(12) of unity", matrix(1, 0, 0, 0, 1, 0, 0, 0, 1).imageCount(12), 1728);
        Due.is("imageCount(12) of 1 row", matrix(0, 0, 0, 1, 1, 1, 0, 0, 0).imageCount(12), 12);
        Due.is("imageCount(12) of 1 column", matrix(0, -1, 0, 0, 1, 0, 0, 1, 0).imageCount(12), 12);
        NormalForms right = Due.system(numbers(2, 0, 0, 0, -3, 0, 0, 0, 4), numbers(1, 1, 1));
        Due.is("imageCount does not count the right side", right.imageCount(12), 72);
    }

    // Promise 12

    private static void firstFailure() {
        // Where all numbers of the matrix are 0, m fails unless it divides the right side.
        int[] want = {0, 2, 3, 2, 3, 2, 4, 2, 3, 2};
        for (int value = 0; value <= 9; value++) {
            NormalForms forms = new NormalForms();
            forms.setRight(2, value);
            Due.is("0 = " + value + ": firstFailure()", forms.firstFailure(), want[value]);
            forms.setRight(2, -value);
            Due.is("0 = -" + value + ": firstFailure()", forms.firstFailure(), want[value]);
        }
        for (int p = 2; p <= 9; p++) {
            NormalForms forms = Due.system(numbers(p, 0, 0, 0, 1, 0, 0, 0, 1), numbers(1, 0, 0));
            Due.is(p + " x = 1: firstFailure()", forms.firstFailure(), p % 2 == 0 ? 2 : p % 3 == 0 ? 3 : p);
        }
        failsAt(8, numbers(8, 0, 0, 0, 1, 0, 0, 0, 1), 4, 0, 0);
        failsAt(9, numbers(9, 0, 0, 0, 1, 0, 0, 0, 1), 3, 0, 0);
        // The determinant is 11.
        failsAt(11, numbers(2, 1, 0, 1, 6, 0, 0, 0, 1), 1, 0, 0);
        // The determinant is 13: no whole solution, but no m up to 12 tells so.
        failsAt(0, numbers(2, 1, 0, 1, 7, 0, 0, 0, 1), 1, 0, 0);
        Due.is("solvable() by 13 only", Due.system(numbers(2, 1, 0, 1, 7, 0, 0, 0, 1), numbers(1, 0, 0)).solvable(), false);
        failsAt(0, numbers(2, 1, 0, 1, 7, 0, 0, 0, 1), 3, 8, 9);
    }

    private static void failsAt(int want, int[] a, int... b) {
        NormalForms forms = Due.system(a, b);
        Due.is("firstFailure()", forms.firstFailure(), want);
        for (int m = 1; m <= 12; m++) {
            if (want == 0 || m < want) {
                Due.is("before " + want + ": solvableBy(" + m + ")", forms.solvableBy(m), 1);
            } else if (m == want) {
                Due.is("at " + want + ": solvableBy(" + m + ")", forms.solvableBy(m), 0);
            }
        }
    }

    // Promise 13

    private static void only() {
        onlyIs("diagonal", Due.system(numbers(2, 0, 0, 0, 3, 0, 0, 0, -5), numbers(8, -9, 5)), 4, -3, -1);
        onlyIs("full", Due.system(numbers(2, -3, 1, 2, 0, -1, 1, 4, 5), numbers(2, 3, 1)), BAD, BAD, BAD);
        onlyIs("full", Due.system(numbers(2, -3, 1, 2, 0, -1, 1, 4, 5), numbers(-4, 2, 9)), 1, 2, 0);
        onlyIs("all 0", Due.system(numbers(1, 2, 3, 0, 1, 4, 5, 6, 0), NONE), 0, 0, 0);
        // One unknown alone would be a fraction: there is no solution.
        onlyIs("first a half", Due.system(numbers(2, 0, 0, 0, 1, 0, 0, 0, 1), numbers(5, 3, 4)), BAD, BAD, BAD);
        onlyIs("second a half", Due.system(numbers(1, 0, 0, 0, 2, 0, 0, 0, 1), numbers(4, 5, 3)), BAD, BAD, BAD);
        onlyIs("third a half", Due.system(numbers(1, 0, 0, 0, 1, 0, 0, 0, 2), numbers(3, 4, 5)), BAD, BAD, BAD);
        onlyIs("several", Due.system(numbers(1, 0, 0, 0, 1, 0, 0, 0, 0), numbers(3, 4, 0)), BAD, BAD, BAD);
        onlyIs("none", Due.system(numbers(1, 0, 0, 0, 1, 0, 0, 0, 0), numbers(3, 4, 1)), BAD, BAD, BAD);
        onlyIs("everything", new NormalForms(), BAD, BAD, BAD);
    }

    // The wrong arguments of promises 7, 9, 10, 11 and 13

    private static void wrongArguments() {
        NormalForms[] all = {new NormalForms(), Due.system(numbers(2, 0, 0, 0, 3, 0, 0, 0, 5), numbers(2, 3, 5))};
        for (NormalForms forms : all) {
            for (int k : numbers(0, 4, -1, 5, Integer.MIN_VALUE, Integer.MAX_VALUE)) {
                Due.is("invariant(" + k + ")", forms.invariant(k), BAD);
            }
            for (int m : WRONG_MODULI) {
                Due.is("solvableBy(" + m + ")", forms.solvableBy(m), BAD);
                Due.is("nullCount(" + m + ")", forms.nullCount(m), BAD);
                Due.is("imageCount(" + m + ")", forms.imageCount(m), BAD);
            }
            for (int c : WRONG_PLACES) {
                Due.is("only(" + c + ")", forms.only(c), BAD);
            }
        }
        isUnchanged("wrong arguments", all[1]);
    }

    private static void askingChangesNothing() {
        NormalForms forms = Due.system(numbers(2, 0, 0, 0, 3, 0, 0, 0, 5), numbers(2, 3, 5));
        // 6 rounds of these calls stay below the 512 that an object is made for.
        for (int round = 0; round < 6; round++) {
            Due.is("again: rank()", forms.rank(), 3);
            Due.is("again: solvable()", forms.solvable(), true);
            Due.is("again: firstFailure()", forms.firstFailure(), 0);
            Due.is("again: solvableBy(6)", forms.solvableBy(6), 1);
            Due.is("again: imageCount(6)", forms.imageCount(6), 36);
            isUnchanged("again", forms);
        }
    }

    private static void objectsAreApart() {
        NormalForms one = Due.system(numbers(2, 0, 0, 0, 3, 0, 0, 0, 5), numbers(2, 3, 5));
        NormalForms other = new NormalForms();
        other.set(0, 0, 9);
        other.setRight(1, 9);
        other.turn();
        isUnchanged("after calls on another object", one);
        Due.is("the other object: rank()", other.rank(), 1);
    }
}
