/** The edges of promises 1 to 3, of STATUS and of FRACTIONS, a sentence of the document each. */
public final class FaceEdgesTest {
    private static final Due DUE = new Due("FaceEdgesTest");
    private static final Sentences SENTENCES = new Sentences(DUE);

    private static void aNewObject() {
        for (int s = 0; s < 4; s++) {
            SENTENCES.holds("a new object: SECTIONS without BANDS", Sentences.with("told(#, 2) = 0", "" + s));
            SENTENCES.holds("a new object: no BAND has an area", Sentences.with("told(#, 4) = 0", "" + s));
            SENTENCES.holds("a new object: no BAND has a width",
                    Sentences.repeat(100, "width(" + s + ", #) = 0"));
            SENTENCES.holds("a new object: SECTIONS without RODS",
                    "told(" + s + ", 3) = 0", "told(" + s + ", 6) = 0", "strength(" + s + ", 0) ! 1");
            SENTENCES.holds("f is 10 at first", "told(" + s + ", 0) = 10", "band(" + s + ", 1, 0, 1)",
                    "told(" + s + ", 5) = 10");
            SENTENCES.holds("z is 50 at first", "told(" + s + ", 1) = 50", "rod(" + s + ", 51, 1)",
                    "bend(" + s + ", 1, true) > 1/1");
            SENTENCES.holds("a new object: no PAIRS", "safe(" + s + ") = -2");
        }
        SENTENCES.holds("a new object: no PAIRS", "pair(0, 0) = 0");
        SENTENCES.holds("a new object: no SIZES", "rod(0, 50, 1)", "pair(1, 0)", "best(0) ! 5", "size(1, 1) = 0");
        SENTENCES.holds("a new object: no SPANS", "times(0, 0) ! 1", "load(0, 1, 1) ! 1", "span(2, 0) = 0");
        SENTENCES.holds("a new object: no LOADS", "factor() ! 6", "weakest() ! 6");
        SENTENCES.holds("a new object: no END HELD", "hold(0, false) ! 8", "hold(1, false) ! 8");
        SENTENCES.holds("a new object: OUT is empty", "out(0) = -1", "out(1) = -1", "out(-1) = -1");
        SENTENCES.holds("a new object: STATUS 0", "status() = 0");
    }

    private static void status() {
        SENTENCES.holds("status(): of the latest call", "told(4, 0) ! 1", "status() = 1", "told(0, 7) ! 2",
                "status() = 2", "told(0, 0) = 10", "status() = 0");
        SENTENCES.holds("status() has no STATUS", "told(4, 0) ! 1", "status() = 1", "status() = 1");
        SENTENCES.holds("out() has no STATUS", "told(4, 0) ! 1", "out(0) = -1", "status() = 1",
                "cut(0, 0, true) > 100/1", "factor() ! 6", "out(0) = 49", "status() = 6", "out(MIN) = -1",
                "status() = 6");
        SENTENCES.holds("clear() has a STATUS", "told(4, 0) ! 1", "clear() = true", "status() = 0");
        SENTENCES.holds("away() has a STATUS", "told(4, 0) ! 1", "away() = true", "status() = 0");
    }

    private static void out() {
        String[] filled = {"cut(0, 0, true) > 100/1"};
        SENTENCES.holds("out(): byte k", Sentences.lines(filled,
                "out(0) = 49", "out(1) = 48", "out(2) = 48", "out(3) = 47", "out(4) = 49"));
        SENTENCES.holds("out(): none ahead of the first byte", Sentences.lines(filled, "out(-1) = -1", "out(MIN) = -1"));
        SENTENCES.holds("out(): none behind the last byte", Sentences.lines(filled, "out(5) = -1", "out(MAX) = -1"));
        SENTENCES.holds("out(): a shorter OUT leaves nothing of a longer one", Sentences.lines(filled,
                "cut(0, 0, false) > 0/1", "out(2) = 49", "out(3) = -1", "out(4) = -1"));
    }

    private static void statusIsTheFirstThatHolds() {
        SENTENCES.refusedEverywhere("STATUS 1 goes ahead of 2", 1, "stone(4, 0, 0)", "stone(4, 1, 101)",
                "band(4, 0, 0, 1)", "band(4, 1, 1, 1)", "rod(4, 101, 0)", "rod(4, 0, 201)", "change(4, 0, 201)",
                "change(0, 6, -1)", "told(4, 7)", "width(4, 100)", "bend(4, 1000001, true)",
                "cut(4, -1000001, true)", "borne(4, 1000001, 0)", "borne(4, 0, 1000001)", "span(1, 4)",
                "load(5, 0, 1)", "load(5, 1, 0)");
        SENTENCES.refusedIn(Worlds.FULL, "STATUS 1 goes ahead of 3", 1, "band(4, 1, 0, 1)", "rod(4, 0, 0)",
                "span(2, 4)", "load(5, 1, 1)");
        SENTENCES.refusedEverywhere("STATUS 1 goes ahead of 4", 1, "bend(4, 1000000, true)", "cut(4, 1000000, true)");
        SENTENCES.refusedIn(Worlds.FULL, "STATUS 1 goes ahead of 5", 1, "chosen(3, 6)", "chosen(3, -1)");
        SENTENCES.refusedIn(Worlds.FULL, "STATUS 2 goes ahead of 3", 2, "band(0, 0, 0, 1)", "band(0, 1, 1, 1)",
                "rod(0, 101, 0)", "rod(0, 0, 201)", "pair(1000001, 0)", "pair(0, 1000001)", "size(0, 1)",
                "size(1, 0)", "span(1, 0)", "load(0, 10, 1)", "load(0, 1, 0)");
        SENTENCES.refusedEverywhere("STATUS 2 goes ahead of 4", 2, "bend(0, 1000001, true)",
                "bend(0, -1000001, true)", "cut(0, 1000001, true)", "cut(0, -1000001, true)");
        SENTENCES.refusedIn(Worlds.SOME, "STATUS 2 goes ahead of 7", 2, "load(0, 5, 0)", "load(0, 5, 1001)");
        SENTENCES.refusedEverywhere("STATUS 2 goes ahead of 8", 2, "hold(2, false)", "hold(2, true)",
                "hold(-1, false)", "hold(-1, true)");
        SENTENCES.refusedIn(Worlds.FULL, "STATUS 3 goes ahead of 7", 3, "load(0, 5, 1)", "load(0, 2, 1)");
    }

    private static void fractions() {
        SENTENCES.holds("FRACTIONS: 0 has the bottom 1, and no -", "bend(0, 0, true) > 0/1", "bend(0, 0, false) > 0/1");
        SENTENCES.holds("FRACTIONS: - ahead of a top below 0 alone", "stone(0, 1, 100)", "rod(0, 99, 1)",
                "bend(0, 1, true) > -1/1", "bend(0, -1, true) > 1/1", "bend(0, 0, true) > 0/1");
        SENTENCES.holds("FRACTIONS: without a common divisor", "stone(0, 2, 5)", "band(0, 3, 0, 10)",
                "bend(0, 24, true) > 72/1", "bend(0, 25, true) > 875/12", "bend(0, 25, false) > -875/12",
                "bend(0, 26, true) > 221/3", "cut(0, 27, true) > 11/2");
        SENTENCES.holds("FRACTIONS: a bottom above 0, below 0 too", "stone(0, 1, 100)", "band(0, 1, 0, 100)",
                "bend(0, 1, true) > -1/2", "bend(0, 1, false) > -199/2", "bend(0, 2, false) > -198/1");
    }

    /** Only a call that the document gives an OUT has one. */
    private static void outStays() {
        String[] others = {"stone(2, 1, 1)", "band(2, 1, 0, 1)", "rod(2, 0, 1)", "change(0, 0, 2)", "told(0, 5)",
            "strength(0, 0)", "width(0, 0)", "borne(0, 0, 0)", "pair(0, 0)", "safe(0)", "size(1, 1)", "best(0)",
            "chosen(0, 0)", "take(0)", "span(2, 0)", "hold(1, true)", "load(0, 2, 1)", "weakest()", "away()", "clear()"};
        for (String other : others) {
            SENTENCES.holds("OUT stays at " + other, Sentences.lines(Worlds.SOME, "cut(0, 25, true) > 29/6", other,
                    "out(0) = 50", "out(1) = 57", "out(2) = 47", "out(3) = 54", "out(4) = -1"));
        }
    }

    private static void the512thCallIsPromised() {
        RodBeam x = new RodBeam();
        x.rod(0, 100, 200);
        for (int i = 2; i < 509; i++) {
            x.change(0, 0, i % 201);
        }
        DUE.same("call 509, bend(0, 0, true)", x.bend(0, 0, true), 3);
        DUE.same("call 510, out(0)", x.out(0), '0');
        DUE.same("call 511, status()", x.status(), 0);
        DUE.same("call 512, strength(0, 0)", x.strength(0, 0), 508 % 201);
    }

    public static void main(String[] args) {
        aNewObject();
        status();
        out();
        statusIsTheFirstThatHolds();
        fractions();
        outStays();
        the512thCallIsPromised();
        DUE.end();
    }
}
