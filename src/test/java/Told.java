/**
 * All that an object tells of its state. It goes part by part, each on an object of its own, as an
 * object is good for 512 calls only; so a part may end with calls that use the object up.
 */
final class Told {
    static final int PARTS = 10;

    private static final int SECTIONS = 4;
    private static final int CHOICES = 8;

    private final RodBeam x;
    private final StringBuilder text = new StringBuilder();
    private int calls = 0;

    private Told(RodBeam x) {
        this.x = x;
    }

    static Told part(RodBeam x, int part) {
        Told told = new Told(x);
        if (part < SECTIONS) {
            told.shape(part);
        } else if (part < CHOICES) {
            told.bends(part - SECTIONS);
        } else if (part == CHOICES) {
            told.choices();
        } else {
            told.beam();
        }
        return told;
    }

    String text() {
        return text.toString();
    }

    int calls() {
        return calls;
    }

    private void note(String call, int answer) {
        text.append(call).append(" = ").append(answer).append(" (").append(x.status()).append(")\n");
        calls += 2;
    }

    private void noteOut(String call, int answer) {
        note(call, answer);
        String out = Due.out(x);
        text.append(out).append('\n');
        calls += 2 * out.length() + 1;
    }

    private void shape(int s) {
        for (int what = 0; what < 7; what++) {
            note("told(" + s + ", " + what + ")", x.told(s, what));
        }
        for (int r = 0; r < 6; r++) {
            note("strength(" + s + ", " + r + ")", x.strength(s, r));
        }
        for (int y = 0; y < 100; y++) {
            note("width(" + s + ", " + y + ")", x.width(s, y));
        }
    }

    private void bends(int s) {
        int least = x.told(s, 6);
        int most = x.told(s, 5);
        calls += 2;
        for (int n : new int[] {least, 0, Math.min(most, 1000000)}) {
            noteOut("bend(" + s + ", " + n + ", true)", x.bend(s, n, true));
            noteOut("bend(" + s + ", " + n + ", false)", x.bend(s, n, false));
            noteOut("cut(" + s + ", " + n + ", true)", x.cut(s, n, true));
            noteOut("cut(" + s + ", " + n + ", false)", x.cut(s, n, false));
        }
    }

    /** PAIRS and SIZES are counted by the number that one more would have. */
    private void choices() {
        for (int s = 0; s < SECTIONS; s++) {
            note("safe(" + s + ")", x.safe(s));
            note("best(" + s + ")", x.best(s));
            for (int r = 0; r < 6; r++) {
                note("chosen(" + s + ", " + r + ")", x.chosen(s, r));
            }
            note("take(" + s + ")", x.take(s));
            note("told(" + s + ", 5)", x.told(s, 5));
        }
        note("pair(0, 0)", x.pair(0, 0));
        note("size(1, 1)", x.size(1, 1));
    }

    private void beam() {
        for (int i = 0; i < 5; i++) {
            noteOut("times(" + i + ", 0)", x.times(i, 0));
            noteOut("times(" + i + ", 1)", x.times(i, 1));
        }
        noteOut("factor()", x.factor());
        note("weakest()", x.weakest());
        for (int i = 0; i < 5; i++) {
            note("load(" + i + ", 1, 1)", x.load(i, 1, 1));
        }
        note("span(2, 0)", x.span(2, 0));
        note("hold(0, true)", x.hold(0, true) ? 1 : 0);
        note("hold(1, true)", x.hold(1, true) ? 1 : 0);
    }
}
