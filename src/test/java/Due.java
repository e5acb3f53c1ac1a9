/** Counts the answers of a test that are not the ones that are due, and tells each. */
final class Due {
    private final String test;
    private int wrong = 0;

    Due(String test) {
        this.test = test;
    }

    void same(String call, long got, long want) {
        if (got != want) {
            tell(call + " answered " + got + ", due is " + want);
        }
    }

    void same(String call, String got, String want) {
        if (!got.equals(want)) {
            tell(call + " answered " + got + ", due is " + want);
        }
    }

    void yes(String call, boolean got) {
        same(call, got ? 1 : 0, 1);
    }

    /** A call that gave NONE or false, and the STATUS that it left. */
    void refused(String call, RodBeam x, int got, int status) {
        same(call, got, RodBeam.NONE);
        same("status() after " + call, x.status(), status);
    }

    void refused(String call, RodBeam x, boolean got, int status) {
        same(call, got ? 1 : 0, 0);
        same("status() after " + call, x.status(), status);
    }

    /** A call that fills OUT and gives its length. */
    void told(String call, RodBeam x, int got, String want) {
        same(call, got, want.length());
        same("status() after " + call, x.status(), 0);
        same("OUT after " + call, out(x), want);
    }

    static String out(RodBeam x) {
        StringBuilder text = new StringBuilder();
        for (int k = 0; k < 1000 && x.out(k) != RodBeam.NONE; k++) {
            text.append((char) x.out(k));
        }
        return text.toString();
    }

    void tell(String what) {
        wrong++;
        System.out.println(test + ": " + what);
    }

    int wrong() {
        return wrong;
    }

    void end() {
        if (wrong != 0) {
            System.out.println(test + ": " + wrong + " answers are not as due");
            System.exit(1);
        }
    }
}
