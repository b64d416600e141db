/** Counts and prints the calls of a test whose answer is not the one that is due. */
final class Due {
    private static final int PRINTED = 40;
    // The longest test needs some seconds.
    private static final long PATIENCE_MILLIS = 120000;

    private static int wrong = 0;
    private static int asked = 0;
    private static volatile String last = "the start";

    private Due() {
    }

    /** Begins a test: a call that does not end makes the test fail, not wait for ever. */
    static void begin() {
        Thread watch = new Thread(() -> {
            try {
                Thread.sleep(PATIENCE_MILLIS);
            } catch (InterruptedException stopped) {
                return;
            }
            System.out.println("a call after " + last + " did not end");
            Runtime.getRuntime().halt(1);
        });
        watch.setDaemon(true);
        watch.start();
    }

    static void is(String call, long got, long want) {
        asked++;
        last = call;
        if (got != want) {
            wrong++;
            if (wrong <= PRINTED) {
                System.out.println(call + " answered " + got + ", due is " + want);
            }
        }
    }

    static void is(String call, boolean got, boolean want) {
        is(call, got ? 1L : 0L, want ? 1L : 0L);
    }

    /** Ends the test: exit code 1 if an answer was wrong or nothing was asked. */
    static void end() {
        System.out.println(asked + " answers, " + wrong + " not as due");
        if (wrong != 0 || asked == 0) {
            System.exit(1);
        }
    }

    /** An object with this matrix, row by row, and this right side. */
    static NormalForms system(int[] a, int[] b) {
        NormalForms forms = new NormalForms();
        fill(forms, a, b);
        return forms;
    }

    static void fill(NormalForms forms, int[] a, int[] b) {
        for (int i = 0; i < 9; i++) {
            is("set(" + i / 3 + ", " + i % 3 + ", " + a[i] + ")", forms.set(i / 3, i % 3, a[i]), true);
        }
        for (int r = 0; r < 3; r++) {
            is("setRight(" + r + ", " + b[r] + ")", forms.setRight(r, b[r]), true);
        }
    }
}
