import java.util.Arrays;
import java.util.function.Consumer;

/** One test for each sentence of the document that names an edge; the sentence stands above the test. */
public final class EdgesTest {
    private static final int BAD = -1000000;
    private static final int LEAST = Integer.MIN_VALUE;
    private static final int GREATEST = Integer.MAX_VALUE;

    // Beside the first numbers that are not taken stand those that would be taken after a wrap-around:
    // kept in a byte or a short, multiplied into an index, or with the sign taken off.
    private static final int[] WRONG_PLACES = {-1, 3, -2, 4, -3, 9, 12, 255, 256, 258, -256, 65536, 65538, -65536,
        1 << 30, (1 << 30) + 2, -(1 << 30), LEAST, LEAST + 1, LEAST + 2, GREATEST - 1, GREATEST};
    private static final int[] WRONG_VALUES = {-10, 10, -11, 11, 18, -18, 90, 247, 256, 265, -256, -265, 65527, 65536,
        65545, -65536, 1 << 30, LEAST, LEAST + 9, LEAST + 10, GREATEST - 9, GREATEST};
    private static final int[] WRONG_SIZES = {0, 4, -1, -2, -3, 5, 255, 256, 257, 259, -255, 65537, -65535,
        (1 << 30) + 1, LEAST, LEAST + 1, LEAST + 3, GREATEST - 1, GREATEST};
    private static final int[] WRONG_MODULI = {0, 13, -1, -2, -12, -13, 14, 24, 256, 257, 268, -255, 65537, 65548,
        (1 << 30) + 1, LEAST, LEAST + 1, LEAST + 12, GREATEST - 1, GREATEST};

    private static final int[] NONE = numbers(0, 0, 0);
    private static final int[] ZEROS = numbers(0, 0, 0, 0, 0, 0, 0, 0, 0);
    private static final int[] UNITY = numbers(1, 0, 0, 0, 1, 0, 0, 0, 1);
    private static final int[] NINES = numbers(9, 9, 9, 9, 9, 9, 9, 9, 9);
    private static final int[] MINUS_NINES = numbers(-9, -9, -9, -9, -9, -9, -9, -9, -9);
    private static final int[] MIXED = numbers(1, -2, 3, -4, 5, -6, 7, -8, 0);

    // The states in which wrong calls are made: matrix, right side.
    private static final int[][][] STATES = {
        {ZEROS, NONE}, {NINES, numbers(9, 9, 9)}, {MINUS_NINES, numbers(-9, -9, -9)}, {MIXED, numbers(-9, 4, 8)},
        {numbers(2, 0, 0, 0, 3, 0, 0, 0, 5), numbers(8, -9, 5)}, {ZEROS, numbers(0, -1, 0)},
    };

    private EdgesTest() {
    }

    public static void main(String[] args) {
        Due.begin();
        // What it is
        everyCallUpTo512Counts();
        everyKindOfCallMayBeThe512th();
        // Terms
        numbersGoFromMinus9To9();
        rowsAndColumnsAreNumberedFrom0();
        rankIs0IfThereIsNoMinor();
        rankIsTheGreatestSize();
        divisorNumber0Is1();
        invariantsAreAbove0();
        // The promises
        newObjectHasZerosOnly();
        setTakesTheLastPlaces();
        setTakesTheLastValues();
        setRefusesRows();
        setRefusesColumns();
        setRefusesValues();
        setRefusesSeveralWrongArguments();
        setRightTakesTheLastRowsAndValues();
        setRightRefusesRows();
        setRightRefusesValues();
        setRightRefusesBothWrong();
        turnExchangesRowsAndColumns();
        turnOfWhatStaysTheSame();
        determinantAtTheEdges();
        invariantIs0AboveTheRank();
        invariantIsBadOutside1To3();
        solvableAtTheEdges();
        solvableByTakes1And12();
        solvableByIsBadOutside1To12();
        nullCountAtTheEdges();
        nullCountIsBadOutside1To12();
        imageCountAtTheEdges();
        imageCountIsBadOutside1To12();
        firstFailureIsTheSmallest();
        firstFailureIs0IfAllAre1();
        onlyAnswersTheOneSolution();
        onlyIsBadIfThereIsNone();
        onlyIsBadIfThereAreSeveral();
        onlyIsBadOutside0To2();
        askingChangesNothing();
        // Rule 7 of LANGUAGE.md
        noCallThrowsAfterThe512th();
        Due.end();
    }

    // Helpers

    private static int[] numbers(int... list) {
        return list;
    }

    private static NormalForms matrix(int... a) {
        return Due.system(a, NONE);
    }

    /**
     * Reads every number of the object that these calls leave behind. A number of the matrix is
     * read as a determinant after all others were set to 0 or 1, so each one needs a new object.
     */
    private static void stateIs(String when, int[] a, int[] b, Consumer<NormalForms> calls) {
        for (int i = 0; i < 9; i++) {
            NormalForms forms = new NormalForms();
            calls.accept(forms);
            int sign = setAllBut(forms, i / 3, i % 3);
            Due.is(when + ": A(" + i / 3 + ", " + i % 3 + ")", sign * forms.determinant(), a[i]);
        }
        NormalForms forms = new NormalForms();
        calls.accept(forms);
        for (int i = 0; i < 9; i++) {
            forms.set(i / 3, i % 3, UNITY[i]);
        }
        for (int r = 0; r < 3; r++) {
            Due.is(when + ": b(" + r + ")", forms.only(r), b[r]);
        }
    }

    /** Leaves the number at (row, column) alone; the determinant is that number times what is answered. */
    private static int setAllBut(NormalForms forms, int row, int column) {
        for (int r = 0; r < 3; r++) {
            for (int c = 0; c < 3; c++) {
                boolean one = r != row && c != column && (r - (r > row ? 1 : 0)) == (c - (c > column ? 1 : 0));
                if (r != row || c != column) {
                    forms.set(r, c, one ? 1 : 0);
                }
            }
        }
        return (row + column) % 2 == 0 ? 1 : -1;
    }

    private static void fill(NormalForms forms, int[][] state) {
        Due.fill(forms, state[0], state[1]);
    }

    private static void setIsRefused(int r, int c, int value) {
        String call = "set(" + r + ", " + c + ", " + value + ")";
        for (int[][] state : STATES) {
            stateIs("after a refused " + call, state[0], state[1], forms -> {
                fill(forms, state);
                Due.is(call, forms.set(r, c, value), false);
            });
        }
    }

    private static void setRightIsRefused(int r, int value) {
        String call = "setRight(" + r + ", " + value + ")";
        for (int[][] state : STATES) {
            stateIs("after a refused " + call, state[0], state[1], forms -> {
                fill(forms, state);
                Due.is(call, forms.setRight(r, value), false);
            });
        }
    }

    private static void setIsTaken(int[] before, int r, int c, int value) {
        String call = "set(" + r + ", " + c + ", " + value + ")";
        int[] after = before.clone();
        after[3 * r + c] = value;
        int[] right = numbers(-9, 4, 8);
        stateIs("after " + call, after, right, forms -> {
            Due.fill(forms, before, right);
            Due.is(call, forms.set(r, c, value), true);
        });
    }

    private static void setRightIsTaken(int[] before, int r, int value) {
        String call = "setRight(" + r + ", " + value + ")";
        int[] after = before.clone();
        after[r] = value;
        stateIs("after " + call, MIXED, after, forms -> {
            Due.fill(forms, MIXED, before);
            Due.is(call, forms.setRight(r, value), true);
        });
    }

    private static void onlyIs(String when, NormalForms forms, int x, int y, int z) {
        Due.is(when + ": only(0)", forms.only(0), x);
        Due.is(when + ": only(1)", forms.only(1), y);
        Due.is(when + ": only(2)", forms.only(2), z);
    }

    private static void invariantsAre(String when, NormalForms forms, int first, int second, int third) {
        Due.is(when + ": invariant(1)", forms.invariant(1), first);
        Due.is(when + ": invariant(2)", forms.invariant(2), second);
        Due.is(when + ": invariant(3)", forms.invariant(3), third);
    }

    // What it is: "An object is used for at most 512 calls after it has been made"

    private static void everyCallUpTo512Counts() {
        NormalForms asked = new NormalForms();
        for (int call = 1; call <= 512; call++) {
            Due.is("call " + call + " of rank()", asked.rank(), 0);
        }
        NormalForms written = Due.system(UNITY, NONE);
        for (int call = 13; call <= 512; call += 2) {
            int value = call / 2 % 19 - 9;
            Due.is("call " + call + ": set(0, 0, " + value + ")", written.set(0, 0, value), true);
            Due.is("call " + (call + 1) + ": determinant()", written.determinant(), value);
        }
        NormalForms refused = new NormalForms();
        for (int call = 1; call <= 511; call++) {
            Due.is("call " + call + ": set(3, 0, 1)", refused.set(3, 0, 1), false);
        }
        Due.is("rank() after 511 refused calls", refused.rank(), 0);
        NormalForms images = Due.system(UNITY, NONE);
        for (int call = 13; call <= 512; call++) {
            Due.is("call " + call + ": imageCount(12)", images.imageCount(12), 1728);
        }
    }

    private static void everyKindOfCallMayBeThe512th() {
        Due.is("512th: set", used(511).set(2, 2, 9), true);
        Due.is("512th: set refused", used(511).set(2, 2, 10), false);
        Due.is("512th: setRight", used(511).setRight(2, 9), true);
        Due.is("512th: setRight refused", used(511).setRight(3, 9), false);
        used(511).turn();
        Due.is("512th: rank()", used(511).rank(), 3);
        Due.is("512th: determinant()", used(511).determinant(), 30);
        Due.is("512th: invariant(3)", used(511).invariant(3), 30);
        Due.is("512th: solvable()", used(511).solvable(), true);
        Due.is("512th: solvableBy(12)", used(511).solvableBy(12), 1);
        Due.is("512th: nullCount(12)", used(511).nullCount(12), 6);
        Due.is("512th: imageCount(12)", used(511).imageCount(12), 288);
        Due.is("512th: firstFailure()", used(511).firstFailure(), 0);
        Due.is("512th: only(1)", used(511).only(1), -3);
        // What the 511th call changed is seen by the 512th.
        NormalForms set = used(510);
        Due.is("511th: set", set.set(2, 2, -9), true);
        Due.is("512th: determinant() after set", set.determinant(), -54);
        NormalForms right = used(510);
        Due.is("511th: setRight", right.setRight(1, 9), true);
        Due.is("512th: only(1) after setRight", right.only(1), 3);
        NormalForms turned = used(509);
        Due.is("510th: set", turned.set(0, 1, 9), true);
        turned.turn();
        Due.is("512th: only(1) after turn", turned.only(1), -15);
    }

    /** An object after so many calls, its numbers set: 2 x = 8, 3 y = -9, 5 z = 5. */
    private static NormalForms used(int calls) {
        NormalForms forms = new NormalForms();
        for (int call = 1; call <= calls - 12; call++) {
            switch (call % 5) {
                case 0 -> forms.set(call % 3, call % 4 % 3, call % 19 - 9);
                case 1 -> forms.turn();
                case 2 -> forms.setRight(call % 4, call % 23 - 11);
                case 3 -> forms.imageCount(call % 14);
                default -> forms.firstFailure();
            }
        }
        fill(forms, STATES[4]);
        return forms;
    }

    // Terms: "all whole numbers from -9 to 9"

    private static void numbersGoFromMinus9To9() {
        for (int value = -9; value <= 9; value++) {
            int[] a = new int[9];
            Arrays.fill(a, value);
            int[] b = numbers(value, value, value);
            stateIs("all numbers " + value, a, b, forms -> Due.fill(forms, a, b));
        }
    }

    // Terms: "rows and columns are numbered from 0"

    private static void rowsAndColumnsAreNumberedFrom0() {
        // x1 has the column of 1, 2, 3, and b is twice that column.
        NormalForms forms = Due.system(numbers(1, 1, 0, 0, 2, 0, 0, 3, 1), numbers(2, 4, 6));
        onlyIs("columns from 0", forms, 0, 2, 0);
        Due.is("row 0 and column 0", forms.set(0, 0, 9), true);
        Due.is("row 0 and column 0: determinant()", forms.determinant(), 18);
        Due.is("row 2 and column 2", forms.set(2, 2, 9), true);
        Due.is("row 2 and column 2: determinant()", forms.determinant(), 162);
    }

    // Terms: "The RANK is the greatest k for which some minor of size k is not 0 (0 if there is none)"

    private static void rankIs0IfThereIsNoMinor() {
        Due.is("new: rank()", new NormalForms().rank(), 0);
        NormalForms forms = Due.system(ZEROS, numbers(9, -9, 9));
        Due.is("0 = 9: rank()", forms.rank(), 0);
        forms.turn();
        Due.is("0 = 9, turned: rank()", forms.rank(), 0);
        for (int i = 0; i < 9; i++) {
            Due.is("set at " + i, forms.set(i / 3, i % 3, -1), true);
            Due.is("one number at " + i + ": rank()", forms.rank(), 1);
            Due.is("set away at " + i, forms.set(i / 3, i % 3, 0), true);
            Due.is("none again at " + i + ": rank()", forms.rank(), 0);
        }
    }

    private static void rankIsTheGreatestSize() {
        Due.is("all 9: rank()", Due.system(NINES, NONE).rank(), 1);
        Due.is("all -9: rank()", Due.system(MINUS_NINES, NONE).rank(), 1);
        Due.is("9 and 8: rank()", matrix(9, 9, 9, 9, 9, 9, 9, 9, 8).rank(), 2);
        Due.is("9 and -9, rank 2: rank()", matrix(9, 9, -9, 9, -9, 9, 9, 9, -9).rank(), 2);
        Due.is("9 and -9, rank 3: rank()", matrix(9, 9, -9, 9, -9, 9, -9, 9, 9).rank(), 3);
        Due.is("determinant 1: rank()", matrix(9, -7, -9, 9, 5, 8, 5, 6, 9).rank(), 3);
        // Each minor of size 2 alone is not 0: the two numbers stand apart, all else is 0.
        for (int i = 0; i < 9; i++) {
            for (int j = 0; j < 9; j++) {
                if (i / 3 != j / 3 && i % 3 != j % 3) {
                    int[] a = new int[9];
                    a[i] = 9;
                    a[j] = -9;
                    Due.is("9 at " + i + ", -9 at " + j + ": rank()", matrix(a).rank(), 2);
                }
            }
        }
        // In one row or one column alone every minor of size 2 is 0.
        for (int line = 0; line < 3; line++) {
            int[] row = new int[9];
            int[] column = new int[9];
            for (int i = 0; i < 3; i++) {
                row[3 * line + i] = i + 7;
                column[3 * i + line] = -i - 7;
            }
            Due.is("row " + line + " alone: rank()", matrix(row).rank(), 1);
            Due.is("column " + line + " alone: rank()", matrix(column).rank(), 1);
        }
    }

    // Terms: "D(0) is 1"

    private static void divisorNumber0Is1() {
        for (int value = 1; value <= 9; value++) {
            invariantsAre(value + " alone", matrix(value, 0, 0, 0, 0, 0, 0, 0, 0), value, 0, 0);
            invariantsAre("-" + value + " alone", matrix(0, 0, 0, 0, 0, 0, 0, -value, 0), value, 0, 0);
        }
        invariantsAre("all 9", Due.system(NINES, NONE), 9, 0, 0);
        invariantsAre("all -9", Due.system(MINUS_NINES, NONE), 9, 0, 0);
    }

    // Terms: "the INVARIANT number k is D(k) / D(k - 1), which is always a whole number above 0"

    private static void invariantsAreAbove0() {
        invariantsAre("determinant -2916", matrix(9, -9, -9, -9, 9, -9, -9, -9, 9), 9, 18, 18);
        invariantsAre("determinant 2916", matrix(-9, 9, 9, 9, -9, 9, 9, 9, -9), 9, 18, 18);
        invariantsAre("determinant -729", matrix(-9, 0, 0, 0, -9, 0, 0, 0, -9), 9, 9, 9);
        invariantsAre("determinant 1", Due.system(UNITY, NONE), 1, 1, 1);
        invariantsAre("determinant -1", matrix(0, 0, 1, 0, 1, 0, 1, 0, 0), 1, 1, 1);
        invariantsAre("all minors of size 2 below 0", matrix(0, -9, 0, -9, 0, 0, 0, 0, 0), 9, 9, 0);
        invariantsAre("primes", matrix(7, 0, 0, 0, 5, 0, 0, 0, -9), 1, 1, 315);
    }

    // Promise 1: "All numbers are 0."

    private static void newObjectHasZerosOnly() {
        stateIs("new", ZEROS, NONE, forms -> { });
        NormalForms old = Due.system(NINES, numbers(9, 9, 9));
        stateIs("new beside an old one", ZEROS, NONE, forms -> { });
        Due.is("the old one keeps its numbers: invariant(1)", old.invariant(1), 9);
        Due.is("the old one keeps its right side: solvable()", old.solvable(), true);
    }

    // Promise 2: "r or c outside 0..2 or value outside -9..9: refused, answers false. Else true."

    private static void setTakesTheLastPlaces() {
        for (int i = 0; i < 9; i++) {
            setIsTaken(ZEROS, i / 3, i % 3, 7);
            setIsTaken(NINES, i / 3, i % 3, -7);
            setIsTaken(MIXED, i / 3, i % 3, 0);
        }
    }

    private static void setTakesTheLastValues() {
        for (int i = 0; i < 9; i++) {
            setIsTaken(ZEROS, i / 3, i % 3, 9);
            setIsTaken(ZEROS, i / 3, i % 3, -9);
            setIsTaken(MIXED, i / 3, i % 3, 9);
            setIsTaken(MIXED, i / 3, i % 3, -9);
            setIsTaken(MIXED, i / 3, i % 3, MIXED[i]);
        }
    }

    private static void setRefusesRows() {
        for (int wrong : WRONG_PLACES) {
            for (int c = 0; c < 3; c++) {
                setIsRefused(wrong, c, 7);
            }
        }
    }

    private static void setRefusesColumns() {
        for (int wrong : WRONG_PLACES) {
            for (int r = 0; r < 3; r++) {
                setIsRefused(r, wrong, 7);
            }
        }
    }

    private static void setRefusesValues() {
        for (int wrong : WRONG_VALUES) {
            for (int i = 0; i < 9; i++) {
                setIsRefused(i / 3, i % 3, wrong);
            }
        }
    }

    private static void setRefusesSeveralWrongArguments() {
        for (int wrong : WRONG_PLACES) {
            setIsRefused(wrong, wrong, 7);
            setIsRefused(-1, wrong, 7);
            setIsRefused(wrong, 3, 7);
            setIsRefused(wrong, 1, 10);
            setIsRefused(1, wrong, -10);
            setIsRefused(wrong, wrong, wrong);
        }
    }

    // Promise 3: "r outside 0..2 or value outside -9..9: refused, answers false. Else true."

    private static void setRightTakesTheLastRowsAndValues() {
        for (int r = 0; r < 3; r++) {
            for (int value = -9; value <= 9; value++) {
                setRightIsTaken(NONE, r, value);
                setRightIsTaken(numbers(-9, 4, 8), r, value);
            }
        }
    }

    private static void setRightRefusesRows() {
        for (int wrong : WRONG_PLACES) {
            setRightIsRefused(wrong, 7);
            setRightIsRefused(wrong, 0);
        }
    }

    private static void setRightRefusesValues() {
        for (int wrong : WRONG_VALUES) {
            for (int r = 0; r < 3; r++) {
                setRightIsRefused(r, wrong);
            }
        }
    }

    private static void setRightRefusesBothWrong() {
        for (int wrong : WRONG_PLACES) {
            setRightIsRefused(wrong, 10);
            setRightIsRefused(wrong, -10);
            setRightIsRefused(wrong, wrong);
        }
    }

    // Promise 4: "Exchanges rows and columns of the matrix."

    private static void turnExchangesRowsAndColumns() {
        int[] b = numbers(-9, 4, 8);
        int[] turned = numbers(1, -4, 7, -2, 5, -8, 3, -6, 0);
        stateIs("turned", turned, b, forms -> {
            Due.fill(forms, MIXED, b);
            forms.turn();
        });
        stateIs("turned twice", MIXED, b, forms -> {
            Due.fill(forms, MIXED, b);
            forms.turn();
            forms.turn();
        });
        stateIs("turned 333 times", turned, b, forms -> {
            Due.fill(forms, MIXED, b);
            for (int i = 0; i < 333; i++) {
                forms.turn();
            }
        });
        stateIs("turned, then set", numbers(1, -4, 9, -2, 5, -8, 3, -6, 0), numbers(-9, 4, -8), forms -> {
            Due.fill(forms, MIXED, b);
            forms.turn();
            forms.set(0, 2, 9);
            forms.setRight(2, -8);
        });
        stateIs("turned, then refused", turned, b, forms -> {
            Due.fill(forms, MIXED, b);
            forms.turn();
            forms.set(0, 3, 9);
            forms.set(0, 2, 10);
            forms.setRight(3, 9);
        });
    }

    private static void turnOfWhatStaysTheSame() {
        int[] even = numbers(9, -9, 8, -9, 0, 7, 8, 7, -9);
        for (int[] a : new int[][] {ZEROS, NINES, MINUS_NINES, UNITY, even}) {
            stateIs("turned and the same", a, numbers(9, 0, -9), forms -> {
                Due.fill(forms, a, numbers(9, 0, -9));
                forms.turn();
            });
        }
    }

    // Promise 6: the greatest and the smallest determinant, and those beside 0

    private static void determinantAtTheEdges() {
        Due.is("greatest: determinant()", matrix(-9, 9, 9, 9, -9, 9, 9, 9, -9).determinant(), 2916);
        Due.is("smallest: determinant()", matrix(9, -9, -9, -9, 9, -9, -9, -9, 9).determinant(), -2916);
        Due.is("all 0: determinant()", Due.system(ZEROS, NONE).determinant(), 0);
        Due.is("all 9: determinant()", Due.system(NINES, NONE).determinant(), 0);
        Due.is("all -9: determinant()", Due.system(MINUS_NINES, NONE).determinant(), 0);
        Due.is("beside 0: determinant()", matrix(-8, -9, 9, 7, 8, 8, -7, -8, -9).determinant(), 1);
        Due.is("beside 0, below: determinant()", matrix(9, -7, -9, 9, 5, 8, 5, 6, 9).determinant(), -1);
        Due.is("rank 2: determinant()", matrix(9, 9, 9, 9, 9, 9, 9, 9, 8).determinant(), 0);
    }

    // Promise 7: "0 for k above the rank up to 3; BAD for k outside 1..3"

    private static void invariantIs0AboveTheRank() {
        invariantsAre("rank 0", new NormalForms(), 0, 0, 0);
        invariantsAre("rank 0 beside a right side", Due.system(ZEROS, numbers(9, 9, 9)), 0, 0, 0);
        invariantsAre("rank 1", matrix(0, 0, 0, 0, 0, 0, 0, 0, -1), 1, 0, 0);
        invariantsAre("rank 1, full", matrix(6, -6, 6, -9, 9, -9, 3, -3, 3), 3, 0, 0);
        invariantsAre("rank 1 beside a right side", Due.system(NINES, numbers(1, 2, 4)), 9, 0, 0);
        invariantsAre("rank 2", matrix(0, 0, 0, 0, 2, 0, 0, 0, -9), 1, 18, 0);
        invariantsAre("rank 2, full", matrix(9, 9, -9, 9, -9, 9, 9, 9, -9), 9, 18, 0);
        NormalForms beside = Due.system(numbers(1, 0, 0, 0, 1, 0, 0, 0, 0), numbers(0, 0, 1));
        invariantsAre("rank 2 beside a right side", beside, 1, 1, 0);
        invariantsAre("rank 3", matrix(9, 9, -9, 9, -9, 9, -9, 9, 9), 9, 18, 18);
    }

    private static void invariantIsBadOutside1To3() {
        for (int[][] state : STATES) {
            NormalForms forms = Due.system(state[0], state[1]);
            for (int k : WRONG_SIZES) {
                Due.is("invariant(" + k + ")", forms.invariant(k), BAD);
            }
            for (int k = 1; k <= 3; k++) {
                Due.is("invariant(" + k + ")", forms.invariant(k), Reference.invariant(state[0], k));
            }
        }
    }

    // Promise 8: no solution, one, several, at each rank

    private static void solvableAtTheEdges() {
        solvableIs("rank 0, b all 0", true, ZEROS, 0, 0, 0);
        for (int r = 0; r < 3; r++) {
            int[] b = new int[3];
            b[r] = r - 9;
            solvableIs("rank 0, b not 0 in row " + r, false, ZEROS, b);
            b[r] = 1;
            solvableIs("rank 0, b of 1 in row " + r, false, ZEROS, b);
        }
        for (int[] nines : new int[][] {NINES, MINUS_NINES}) {
            solvableIs("all nines, b all 9", true, nines, 9, 9, 9);
            solvableIs("all nines, b all -9", true, nines, -9, -9, -9);
            solvableIs("all nines, b all 0", true, nines, 0, 0, 0);
            solvableIs("all nines, b all 8", false, nines, 8, 8, 8);
            solvableIs("all nines, b all -1", false, nines, -1, -1, -1);
            solvableIs("all nines, rows apart", false, nines, 9, 9, -9);
        }
        int[] two = numbers(9, 9, -9, 9, -9, 9, 9, 9, -9);
        solvableIs("rank 2, several", true, two, 9, 9, 9);
        solvableIs("rank 2, no fractions", false, two, 9, 9, 0);
        solvableIs("rank 2, only fractions", false, two, 9, 0, 9);
        int[] three = numbers(-9, 9, 9, 9, -9, 9, 9, 9, -9);
        solvableIs("rank 3, one", true, three, 9, 9, 9);
        solvableIs("rank 3, all 0", true, three, 0, 0, 0);
        solvableIs("rank 3, only fractions", false, three, 9, 9, 0);
        solvableIs("rank 3, only fractions", false, three, 1, 0, 0);
        solvableIs("determinant -1", true, numbers(9, -7, -9, 9, 5, 8, 5, 6, 9), -9, 9, -9);
    }

    private static void solvableIs(String when, boolean want, int[] a, int... b) {
        Due.is(when + ": solvable()", Due.system(a, b).solvable(), want);
    }

    // Promise 9: "1 if there are, else 0; BAD for m outside 1..12"

    private static void solvableByTakes1And12() {
        for (int[][] state : STATES) {
            // By 1 every rest is 0, so that everything is solvable.
            Due.is("solvableBy(1)", Due.system(state[0], state[1]).solvableBy(1), 1);
        }
        NormalForms twelve = Due.system(numbers(6, 0, 0, 0, 4, 0, 0, 0, 9), numbers(6, 8, -9));
        Due.is("6, 4, 9: solvableBy(12)", twelve.solvableBy(12), 1);
        for (int r = 0; r < 3; r++) {
            NormalForms forms = Due.system(numbers(6, 0, 0, 0, 4, 0, 0, 0, 9), numbers(6, 8, -9));
            forms.setRight(r, 1);
            Due.is("row " + r + " fails: solvableBy(12)", forms.solvableBy(12), 0);
            Due.is("row " + r + " fails: solvableBy(1)", forms.solvableBy(1), 1);
            Due.is("row " + r + " fails: solvableBy(11)", forms.solvableBy(11), 1);
        }
        // A rest below 0 counts as the one above: -9 x = 3 by 12 has x = 1, and 9 x = -3 too.
        NormalForms below = Due.system(numbers(-9, 0, 0, 0, 0, 0, 0, 0, 0), numbers(3, 0, 0));
        Due.is("-9 x = 3: solvableBy(12)", below.solvableBy(12), 1);
        NormalForms above = Due.system(numbers(9, 0, 0, 0, 0, 0, 0, 0, 0), numbers(-3, 0, 0));
        Due.is("9 x = -3: solvableBy(12)", above.solvableBy(12), 1);
        for (int m = 1; m <= 12; m++) {
            Due.is("0 = 9: solvableBy(" + m + ")", Due.system(ZEROS, numbers(9, -9, 9)).solvableBy(m), 9 % m == 0 ? 1 : 0);
            Due.is("all nines: solvableBy(" + m + ")", Due.system(NINES, numbers(-9, -9, -9)).solvableBy(m), 1);
            // Only the last x, m - 1, serves.
            Due.is("x = -1: solvableBy(" + m + ")", Due.system(UNITY, numbers(-1, -1, -1)).solvableBy(m), 1);
        }
    }

    private static void solvableByIsBadOutside1To12() {
        for (int[][] state : STATES) {
            NormalForms forms = Due.system(state[0], state[1]);
            for (int m : WRONG_MODULI) {
                Due.is("solvableBy(" + m + ")", forms.solvableBy(m), BAD);
            }
            for (int m = 1; m <= 12; m++) {
                Due.is("solvableBy(" + m + ")", forms.solvableBy(m), Reference.solvableBy(state[0], state[1], m));
            }
        }
    }

    // Promise 10: "lists of three numbers from 0 to m - 1 .. BAD for m outside 1..12"

    private static void nullCountAtTheEdges() {
        for (int[][] state : STATES) {
            Due.is("nullCount(1)", Due.system(state[0], state[1]).nullCount(1), 1);
        }
        Due.is("all 0: nullCount(12)", new NormalForms().nullCount(12), 1728);
        Due.is("unity: nullCount(12)", Due.system(UNITY, NONE).nullCount(12), 1);
        Due.is("all 9: nullCount(9)", Due.system(NINES, NONE).nullCount(9), 729);
        Due.is("all -9: nullCount(9)", Due.system(MINUS_NINES, NONE).nullCount(9), 729);
        Due.is("all -9: nullCount(3)", Due.system(MINUS_NINES, NONE).nullCount(3), 27);
        Due.is("all 9: nullCount(12)", Due.system(NINES, NONE).nullCount(12), 432);
        Due.is("all -9: nullCount(12)", Due.system(MINUS_NINES, NONE).nullCount(12), 432);
        Due.is("all 9: nullCount(11)", Due.system(NINES, NONE).nullCount(11), 121);
        // Every row must be a multiple of m: here each row alone lets other lists pass.
        Due.is("6, 4, 3: nullCount(12)", matrix(6, 0, 0, 0, 4, 0, 0, 0, 3).nullCount(12), 72);
        Due.is("no solution: nullCount(12)", Due.system(ZEROS, numbers(1, 1, 1)).nullCount(12), 1728);
    }

    private static void nullCountIsBadOutside1To12() {
        for (int[][] state : STATES) {
            NormalForms forms = Due.system(state[0], state[1]);
            for (int m : WRONG_MODULI) {
                Due.is("nullCount(" + m + ")", forms.nullCount(m), BAD);
            }
            for (int m = 1; m <= 12; m++) {
                Due.is("nullCount(" + m + ")", forms.nullCount(m), Reference.nullCount(state[0], m));
            }
        }
    }

    // Promise 11: "with every row sum replaced by its rest from 0 to m - 1 .. BAD for m outside 1..12"

    private static void imageCountAtTheEdges() {
        for (int[][] state : STATES) {
            Due.is("imageCount(1)", Due.system(state[0], state[1]).imageCount(1), 1);
        }
        Due.is("all 0: imageCount(12)", new NormalForms().imageCount(12), 1);
        Due.is("unity: imageCount(12)", Due.system(UNITY, NONE).imageCount(12), 1728);
        Due.is("minus unity: imageCount(12)", matrix(-1, 0, 0, 0, -1, 0, 0, 0, -1).imageCount(12), 1728);
        Due.is("all 9: imageCount(9)", Due.system(NINES, NONE).imageCount(9), 1);
        Due.is("all -9: imageCount(9)", Due.system(MINUS_NINES, NONE).imageCount(9), 1);
        Due.is("all 9: imageCount(12)", Due.system(NINES, NONE).imageCount(12), 4);
        Due.is("all -9: imageCount(12)", Due.system(MINUS_NINES, NONE).imageCount(12), 4);
        // Rests of sums below 0 and above 0 are the same lists.
        Due.is("1 and -1: imageCount(12)", matrix(1, -1, 0, 1, -1, 0, 1, -1, 0).imageCount(12), 12);
        Due.is("7 and -5: imageCount(12)", matrix(7, -5, 0, 0, 0, 0, 0, 0, 0).imageCount(12), 12);
        Due.is("6, 4, 3: imageCount(12)", matrix(6, 0, 0, 0, 4, 0, 0, 0, 3).imageCount(12), 24);
        Due.is("no solution: imageCount(12)", Due.system(ZEROS, numbers(1, 1, 1)).imageCount(12), 1);
    }

    private static void imageCountIsBadOutside1To12() {
        for (int[][] state : STATES) {
            NormalForms forms = Due.system(state[0], state[1]);
            for (int m : WRONG_MODULI) {
                Due.is("imageCount(" + m + ")", forms.imageCount(m), BAD);
            }
            for (int m = 1; m <= 12; m++) {
                Due.is("imageCount(" + m + ")", forms.imageCount(m), Reference.imageCount(state[0], m));
            }
        }
    }

    // Promise 12: "The smallest m from 1 to 12 for which solvableBy(m) is 0; 0 if it is 1 for all of them."

    private static void firstFailureIsTheSmallest() {
        // The smallest m that fails is a prime or a power of one: these are all that can be answered.
        failsFirst(2, numbers(8, 0, 0, 0, 1, 0, 0, 0, 1), 1, 0, 0);
        failsFirst(3, numbers(1, 0, 0, 0, 9, 0, 0, 0, 1), 0, -1, 0);
        failsFirst(4, numbers(1, 0, 0, 0, 1, 0, 0, 0, 8), 9, 9, -6);
        failsFirst(5, numbers(5, 5, -5, 0, 1, 0, 0, 0, 1), 9, 0, 0);
        failsFirst(7, numbers(7, -7, 7, 7, -7, 7, -7, 7, 7), 1, 1, 1);
        failsFirst(8, numbers(8, 0, 0, 0, 8, 0, 0, 0, 8), 4, -4, 4);
        failsFirst(9, NINES, 3, 3, 3);
        failsFirst(9, MINUS_NINES, 6, 6, 6);
        failsFirst(11, numbers(2, 1, 0, 1, 6, 0, 0, 0, 1), 1, 0, 0);
        failsFirst(2, ZEROS, 9, 9, 9);
        failsFirst(4, ZEROS, 6, -6, 6);
    }

    private static void failsFirst(int want, int[] a, int... b) {
        NormalForms forms = Due.system(a, b);
        Due.is("fails first by " + want + ": firstFailure()", forms.firstFailure(), want);
        for (int m = 1; m <= want; m++) {
            Due.is("fails first by " + want + ": solvableBy(" + m + ")", forms.solvableBy(m), m < want ? 1 : 0);
        }
        Due.is("fails first by " + want + ": solvable()", forms.solvable(), false);
    }

    private static void firstFailureIs0IfAllAre1() {
        failsNever("all 0", true, ZEROS, 0, 0, 0);
        failsNever("all 9", true, NINES, 9, 9, 9);
        failsNever("all -9", true, MINUS_NINES, 9, 9, 9);
        failsNever("unity", true, UNITY, -9, 9, 0);
        failsNever("several", true, numbers(9, 9, -9, 9, -9, 9, 9, 9, -9), 9, 9, 9);
        // There is no solution, but the first m to tell it is above 12.
        failsNever("determinant 13", false, numbers(2, 1, 0, 1, 7, 0, 0, 0, 1), 1, 0, 0);
        failsNever("determinant 16", false, numbers(3, 1, 0, -1, 5, 0, 0, 0, 1), 0, 8, 0);
    }

    private static void failsNever(String when, boolean solvable, int[] a, int... b) {
        NormalForms forms = Due.system(a, b);
        Due.is(when + ": firstFailure()", forms.firstFailure(), 0);
        for (int m = 1; m <= 12; m++) {
            Due.is(when + ": solvableBy(" + m + ")", forms.solvableBy(m), 1);
        }
        Due.is(when + ": solvable()", forms.solvable(), solvable);
    }

    // Promise 13: "The only solution's number c, if there is just one solution;
    // BAD if there is none or there are several, or c is outside 0..2."

    private static void onlyAnswersTheOneSolution() {
        onlyIs("great numbers", Due.system(numbers(9, -7, -9, 9, 5, 8, 5, 6, 9), numbers(-9, 9, -9)), -207, -2880, 2034);
        onlyIs("great numbers", Due.system(numbers(-8, -9, 9, 7, 8, 8, -7, -8, -9), numbers(-9, -9, -9)), 2745, -2421, 18);
        onlyIs("greatest determinant", Due.system(numbers(-9, 9, 9, 9, -9, 9, 9, 9, -9), numbers(9, 9, 9)), 1, 1, 1);
        onlyIs("smallest determinant", Due.system(numbers(9, -9, -9, -9, 9, -9, -9, -9, 9), numbers(9, 9, 9)), -1, -1, -1);
        onlyIs("all 0", Due.system(numbers(-9, 9, 9, 9, -9, 9, 9, 9, -9), NONE), 0, 0, 0);
        onlyIs("unity", Due.system(UNITY, numbers(9, 0, -9)), 9, 0, -9);
        onlyIs("mirrored", Due.system(numbers(0, 0, -1, 0, -1, 0, -1, 0, 0), numbers(9, 8, -7)), 7, -8, -9);
    }

    private static void onlyIsBadIfThereIsNone() {
        onlyIs("rank 0, none", Due.system(ZEROS, numbers(0, 0, 1)), BAD, BAD, BAD);
        onlyIs("rank 1, none", Due.system(NINES, numbers(9, 9, 8)), BAD, BAD, BAD);
        onlyIs("rank 1, fractions", Due.system(NINES, numbers(3, 3, 3)), BAD, BAD, BAD);
        onlyIs("rank 2, none", Due.system(numbers(1, 0, 0, 0, 1, 0, 0, 0, 0), numbers(1, 1, 1)), BAD, BAD, BAD);
        onlyIs("rank 2, fractions", Due.system(numbers(2, 0, 0, 0, 2, 0, 0, 0, 0), numbers(1, 2, 0)), BAD, BAD, BAD);
        // Of rank 3 and one number alone is a fraction: in no place is there an answer.
        for (int c = 0; c < 3; c++) {
            int[] a = UNITY.clone();
            a[4 * c] = -9;
            int[] b = numbers(9, 9, 9);
            b[c] = 8;
            onlyIs("number " + c + " a fraction", Due.system(a, b), BAD, BAD, BAD);
        }
    }

    private static void onlyIsBadIfThereAreSeveral() {
        onlyIs("rank 0, several", new NormalForms(), BAD, BAD, BAD);
        onlyIs("rank 1, several", Due.system(NINES, numbers(9, 9, 9)), BAD, BAD, BAD);
        onlyIs("rank 1, b all 0", Due.system(MINUS_NINES, NONE), BAD, BAD, BAD);
        // Of rank 2, with one number free: the two others are the same in all solutions.
        for (int c = 0; c < 3; c++) {
            int[] a = UNITY.clone();
            a[4 * c] = 0;
            int[] b = numbers(9, -9, 8);
            b[c] = 0;
            onlyIs("number " + c + " free", Due.system(a, b), BAD, BAD, BAD);
            onlyIs("number " + c + " free, b all 0", Due.system(a, NONE), BAD, BAD, BAD);
        }
        onlyIs("rank 2, several", Due.system(numbers(9, 9, -9, 9, -9, 9, 9, 9, -9), numbers(9, 9, 9)), BAD, BAD, BAD);
    }

    private static void onlyIsBadOutside0To2() {
        for (int[][] state : STATES) {
            NormalForms forms = Due.system(state[0], state[1]);
            for (int c : WRONG_PLACES) {
                Due.is("only(" + c + ")", forms.only(c), BAD);
            }
            for (int c = 0; c < 3; c++) {
                Due.is("only(" + c + ")", forms.only(c), Reference.only(state[0], state[1], c));
            }
        }
    }

    // No promise lets an asking call change a number, whatever it answers.

    private static void askingChangesNothing() {
        for (int[][] state : STATES) {
            askIn(state, "rank", NormalForms::rank);
            askIn(state, "determinant", NormalForms::determinant);
            askIn(state, "solvable", NormalForms::solvable);
            askIn(state, "firstFailure", NormalForms::firstFailure);
            for (int k : numbers(1, 2, 3, 0, 4, LEAST, GREATEST)) {
                askIn(state, "invariant(" + k + ")", forms -> forms.invariant(k));
            }
            for (int m : numbers(1, 2, 6, 12, 0, 13, LEAST, GREATEST)) {
                askIn(state, "solvableBy(" + m + ")", forms -> forms.solvableBy(m));
                askIn(state, "nullCount(" + m + ")", forms -> forms.nullCount(m));
                askIn(state, "imageCount(" + m + ")", forms -> forms.imageCount(m));
            }
            for (int c : numbers(0, 1, 2, -1, 3, LEAST, GREATEST)) {
                askIn(state, "only(" + c + ")", forms -> forms.only(c));
            }
        }
    }

    private static void askIn(int[][] state, String call, Consumer<NormalForms> ask) {
        stateIs("after " + call, state[0], state[1], forms -> {
            fill(forms, state);
            ask.accept(forms);
        });
    }

    // LANGUAGE.md, rule 7: "No call may ever throw or fail to end, for any arguments in any state".
    // What an object answers after its 512th call is free, so that nothing is compared here.

    private static void noCallThrowsAfterThe512th() {
        NormalForms forms = used(512);
        for (int round = 0; round < 3; round++) {
            for (int wrong : WRONG_MODULI) {
                forms.set(wrong, wrong, wrong);
                forms.set(round, 2, wrong);
                forms.setRight(wrong, wrong);
                forms.setRight(round, wrong);
                forms.turn();
                forms.rank();
                forms.determinant();
                forms.invariant(wrong);
                forms.invariant(round + 1);
                forms.solvable();
                forms.solvableBy(wrong);
                forms.nullCount(wrong);
                forms.imageCount(wrong);
                forms.imageCount(12);
                forms.firstFailure();
                forms.only(wrong);
                forms.only(round);
            }
        }
    }
}
