/** Counts and prints the answers that are not as due; a test's main ends with done(). */
final class Check {
    private final String test;
    private int wrong = 0;

    Check(String test) {
        this.test = test;
    }

    void due(String call, long got, long want) {
        if (got != want) {
            wrong++;
            System.out.println(test + ": " + call + " answered " + got + ", due is " + want);
        }
    }

    void due(String call, boolean got, boolean want) {
        due(call, got ? 1L : 0L, want ? 1L : 0L);
    }

    /** The vector of a class holds just these cells, from place 0 on. */
    void dueVector(String when, MeshedSpans x, int sizeClass, int... cells) {
        for (int k = 0; k < cells.length; k++) {
            due(when + ": vector(" + sizeClass + ", " + k + ")", x.vector(sizeClass, k), cells[k]);
        }
        due(when + ": vector(" + sizeClass + ", " + cells.length + ")", x.vector(sizeClass, cells.length), MeshedSpans.NONE);
    }

    void done() {
        System.out.println(wrong == 0 ? "all answers are as due" : wrong + " answers are not as due");
        if (wrong != 0) {
            System.exit(1);
        }
    }
}
