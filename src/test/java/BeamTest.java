/** Promises 21 to 27: the BEAM. */
public final class BeamTest {
    private static final Due DUE = new Due("BeamTest");

    /** SECTION 0 has SAG 99 and HOG 51, SECTION 1 SAG and HOG 120, SECTION 2 neither. */
    private static RodBeam bench() {
        RodBeam x = new RodBeam();
        x.stone(0, 2, 5);
        x.band(0, 3, 0, 10);
        x.rod(0, 1, 12);
        x.rod(0, 9, 6);
        x.rod(1, 0, 2);
        x.rod(1, 60, 2);
        return x;
    }

    private static void spanAndAway() {
        RodBeam x = bench();
        DUE.refused("span(1, 4)", x, x.span(1, 4), 1);
        DUE.refused("span(5, -1)", x, x.span(5, -1), 1);
        DUE.refused("span(1, 0)", x, x.span(1, 0), 2);
        DUE.refused("span(51, 0)", x, x.span(51, 0), 2);
        DUE.refused("load(0, 1, 1)", x, x.load(0, 1, 1), 1);
        for (int i = 0; i < 5; i++) {
            DUE.same("span " + i, x.span(i % 2 == 0 ? 2 : 50, i % 4), i);
        }
        DUE.refused("a sixth span", x, x.span(2, 0), 3);
        DUE.refused("a sixth span that can't be", x, x.span(1, 0), 2);
        DUE.same("load(4, 1, 1)", x.load(4, 1, 1), 0);
        x.hold(1, true);
        DUE.yes("away()", x.away());
        DUE.refused("times(4, 0)", x, x.times(4, 0), 1);
        DUE.refused("factor()", x, x.factor(), 6);
        DUE.refused("weakest()", x, x.weakest(), 6);
        DUE.refused("hold(1, true): the ends stay", x, x.hold(1, true), 8);
        DUE.same("span(2, 1)", x.span(2, 1), 0);
        DUE.refused("factor(): the loads are gone", x, x.factor(), 6);
        DUE.yes("away()", x.away());
        DUE.yes("away() again", x.away());
    }

    private static void hold() {
        RodBeam x = bench();
        DUE.refused("hold(-1, true)", x, x.hold(-1, true), 2);
        DUE.refused("hold(2, false)", x, x.hold(2, false), 2);
        DUE.refused("hold(0, false)", x, x.hold(0, false), 8);
        x.span(10, 0);
        x.load(0, 2, 1);
        DUE.told("times(0, 0)", x, x.times(0, 0), "495/8");
        DUE.yes("hold(0, true)", x.hold(0, true));
        DUE.refused("hold(0, true)", x, x.hold(0, true), 8);
        DUE.told("times(0, 0)", x, x.times(0, 0), "699/8");
        DUE.yes("hold(1, true)", x.hold(1, true));
        DUE.told("times(0, 0)", x, x.times(0, 0), "375/4");
        DUE.yes("hold(0, false)", x.hold(0, false));
        DUE.told("times(0, 0)", x, x.times(0, 0), "273/4");
        DUE.yes("hold(1, false)", x.hold(1, false));
        DUE.told("times(0, 0)", x, x.times(0, 0), "495/8");
    }

    private static void load() {
        RodBeam x = bench();
        x.span(10, 0);
        x.span(2, 1);
        DUE.refused("load(2, 1, 1)", x, x.load(2, 1, 1), 1);
        DUE.refused("load(-1, 0, 0)", x, x.load(-1, 0, 0), 1);
        DUE.refused("load(0, 0, 1)", x, x.load(0, 0, 1), 2);
        DUE.refused("load(0, 10, 1)", x, x.load(0, 10, 1), 2);
        DUE.refused("load(0, 1, 0)", x, x.load(0, 1, 0), 2);
        DUE.refused("load(0, 1, 1001)", x, x.load(0, 1, 1001), 2);
        DUE.same("load(0, 9, 1000)", x.load(0, 9, 1000), 0);
        DUE.refused("load(0, 9, 1)", x, x.load(0, 9, 1), 7);
        DUE.refused("load(0, 9, 0)", x, x.load(0, 9, 0), 2);
        DUE.same("load(0, 1, 1)", x.load(0, 1, 1), 1);
        DUE.refused("load(0, 9, 1): one too many goes first", x, x.load(0, 9, 1), 3);
        DUE.refused("load(0, 5, 1)", x, x.load(0, 5, 1), 3);
        DUE.same("load(1, 1, 1)", x.load(1, 1, 1), 0);
    }

    private static void times() {
        RodBeam x = bench();
        x.span(10, 0);
        x.load(0, 5, 4);
        DUE.told("times(0, 0)", x, x.times(0, 0), "99/10");
        x.load(0, 2, 5);
        DUE.told("times(0, 0)", x, x.times(0, 0), "33/5");
        DUE.told("times(0, 1)", x, x.times(0, 1), "33/4");
        DUE.refused("times(0, 2)", x, x.times(0, 2), 1);
        DUE.refused("times(0, -1)", x, x.times(0, -1), 1);
        DUE.refused("times(1, 0)", x, x.times(1, 0), 1);
        DUE.refused("times(-1, 0)", x, x.times(-1, 0), 1);
        x.span(4, 1);
        x.load(1, 1, 10);
        DUE.told("times(0, 0) beside a stronger span", x, x.times(0, 0), "83/10");
        DUE.told("times(1, 0) beside a weaker span", x, x.times(1, 0), "211/10");
        x.span(3, 2);
        DUE.told("times(1, 0) between two", x, x.times(1, 0), "211/10");
        x.load(2, 2, 1);
        DUE.told("times(2, 0) of a span that bears nothing", x, x.times(2, 0), "0/1");
        x.change(1, 0, 4);
        DUE.told("times(1, 0) after a change of its rods", x, x.times(1, 0), "211/10");
        x.change(1, 1, 4);
        DUE.told("times(1, 0) after another", x, x.times(1, 0), "371/10");
    }

    private static void factorAndWeakest() {
        RodBeam x = bench();
        DUE.refused("factor()", x, x.factor(), 6);
        DUE.refused("weakest()", x, x.weakest(), 6);
        x.span(10, 1);
        x.span(10, 1);
        x.span(10, 1);
        DUE.refused("factor() without loads", x, x.factor(), 6);
        x.load(1, 5, 100);
        DUE.told("factor()", x, x.factor(), "24/25");
        DUE.same("weakest()", x.weakest(), 10);
        x.load(2, 3, 200);
        DUE.told("factor()", x, x.factor(), "17/35");
        DUE.same("weakest()", x.weakest(), 20);
        x.load(0, 7, 200);
        DUE.told("factor()", x, x.factor(), "17/35");
        DUE.same("weakest() of two the first", x.weakest(), 0);
        x.load(2, 5, 100);
        DUE.same("weakest() in a span", x.weakest(), 21);
        x.change(1, 0, 0);
        x.change(1, 1, 0);
        DUE.told("factor()", x, x.factor(), "0/1");
        DUE.same("weakest()", x.weakest(), 0);
    }

    /**
     * Four SECTIONS whose bottoms have little in common, the STONE cut both at top and at foot;
     * SECTION 0 has the greatest HOG, so that beside it both neighbours' ones count.
     */
    private static void makeWide(RodBeam x, SlowRodBeam y) {
        int[] strengths = {50, 49, 47, 43};
        int[] widths = {99, 97, 87, 97};
        for (int s = 0; s < 4; s++) {
            x.stone(s, strengths[s], 50);
            y.stone(s, strengths[s], 50);
            for (int b = 0; b < 8; b++) {
                x.band(s, b == 0 ? widths[s] : 100, 0, 100);
                y.band(s, b == 0 ? widths[s] : 100, 0, 100);
            }
            for (int r = 0; r < 6; r++) {
                x.rod(s, 50, r == 0 ? 199 - 6 * s : 200);
                y.rod(s, 50, r == 0 ? 199 - 6 * s : 200);
            }
        }
    }

    private static void addWideSpans(RodBeam x, SlowRodBeam y) {
        int[] sections = {1, 0, 2, 0, 3};
        for (int i = 0; i < 5; i++) {
            int length = i == 3 ? 49 : 47;
            x.span(length, sections[i]);
            y.span(length, sections[i]);
            x.load(i, 24, 997);
            y.load(i, 24, 997);
            x.load(i, 23, 991);
            y.load(i, 23, 991);
        }
    }

    /** Some tops of these TIMES no longer go into 64 bits. */
    private static void longFractions() {
        RodBeam x = new RodBeam();
        SlowRodBeam y = new SlowRodBeam();
        makeWide(x, y);
        addWideSpans(x, y);
        int longest = 0;
        for (int i = 0; i < 5; i++) {
            for (int k = 0; k < 2; k++) {
                int length = x.times(i, k);
                DUE.same("times(" + i + ", " + k + ")", length, y.times(i, k));
                DUE.same("OUT after times(" + i + ", " + k + ")", Due.out(x), y.out());
                longest = Math.max(longest, y.out().indexOf('/'));
            }
        }
        DUE.yes("a top has more figures than a long", longest > 19);
        DUE.same("factor()", x.factor(), y.factor());
        DUE.same("OUT after factor()", Due.out(x), y.out());
        DUE.same("weakest()", x.weakest(), y.weakest());
    }

    public static void main(String[] args) {
        spanAndAway();
        hold();
        load();
        times();
        factorAndWeakest();
        longFractions();
        DUE.end();
    }
}
