/** The edges of promises 21 to 27 and of the Terms on the BEAM, a sentence of the document each. */
public final class BeamEdgesTest {
    private static final Due DUE = new Due("BeamEdgesTest");
    private static final Sentences SENTENCES = new Sentences(DUE);

    /** SECTION 0 has SAG 99 and HOG 51, SECTION 1 SAG and HOG 120, SECTION 2 neither, 3 both 10. */
    private static final String[] BENCH = {
        "stone(0, 2, 5)", "band(0, 3, 0, 10)", "rod(0, 1, 12)", "rod(0, 9, 6)",
        "rod(1, 0, 2)", "rod(1, 60, 2)", "rod(3, 45, 1)", "rod(3, 55, 1)",
    };

    private static String[] bench(Object... lines) {
        return Sentences.lines(BENCH, Sentences.lines(lines));
    }

    private static void span() {
        SENTENCES.refusedEverywhere("SECTIONS 0 to 3", 1, Sentences.outside("span(2, #)", 0, 3));
        SENTENCES.holds("SECTIONS 0 to 3: 0 and 3 can be", "span(2, 0) = 0", "span(2, 3) = 1");
        SENTENCES.refusedEverywhere("a SPAN's length is 2 to 50", 2, Sentences.outside("span(#, 0)", 2, 50));
        SENTENCES.holds("a SPAN's length can be 2", "span(2, 0) = 0", "load(0, 1, 1) = 0", "load(0, 2, 1) ! 2");
        SENTENCES.holds("a SPAN's length can be 50", "span(50, 0) = 0", "load(0, 49, 1) = 0", "load(0, 50, 1) ! 2");
        SENTENCES.holds("SPANS are numbered from the left end", Sentences.repeat(5, "span(1#, 0) = #"));
        SENTENCES.holds("at most 5 SPANS", Sentences.lines(Sentences.repeat(5, "span(2, 0) = #"), "span(2, 0) ! 3",
                "span(50, 3) ! 3"));
        SENTENCES.refusedIn(Worlds.FULL, "at most 5 SPANS", 3, "span(2, 0)", "span(50, 3)");
        SENTENCES.holds("a SPAN more comes at the right end", bench("span(10, 1)", "load(0, 5, 1)", "hold(1, true)",
                "times(0, 0) > 72/1", "span(10, 2)", "times(0, 0) > 48/1"));
        SENTENCES.holds("a SPAN has its SECTION as it is now", bench("span(2, 1)", "load(0, 1, 1)",
                "times(0, 0) > 240/1", "change(1, 0, 1)", "change(1, 1, 1)", "times(0, 0) > 120/1", "stone(1, 1, 1)",
                "times(0, 0) > 0/1"));
        SENTENCES.holds("a SPAN has no LOADS at first", "span(2, 0)", "times(0, 0) ! 1", "factor() ! 6");
    }

    private static void away() {
        SENTENCES.holds("away(): without SPANS", "away() = true", "span(2, 0) = 0");
        SENTENCES.holds("away(): all 5 SPANS are gone", Sentences.lines(Worlds.FULL, "away() = true", "load(0, 1, 1) ! 1",
                "load(4, 1, 1) ! 1", "times(0, 0) ! 1"));
        SENTENCES.holds("away(): all LOADS are gone", Sentences.lines(Worlds.FULL, "away() = true", "factor() ! 6",
                "weakest() ! 6"));
        SENTENCES.holds("away(): LOADS don't come back", Sentences.lines(Worlds.FULL, "away()", "span(10, 0) = 0",
                "times(0, 0) ! 1", "factor() ! 6", "load(0, 5, 1) = 0", "load(0, 2, 1) = 1", "load(0, 3, 1) ! 3"));
        SENTENCES.holds("away(): again 5 SPANS", Sentences.lines(Worlds.FULL, "away()",
                Sentences.repeat(5, "span(2, 0) = #"), "span(2, 0) ! 3"));
        SENTENCES.holds("away(): ENDS that are HELD stay", Sentences.lines(Worlds.FULL, "away()", "hold(0, true) ! 8",
                "hold(1, true) ! 8"));
        SENTENCES.holds("away(): ENDS that aren't HELD stay", "span(2, 0)", "away()", "hold(0, false) ! 8",
                "hold(1, false) ! 8");
        SENTENCES.holds("away(): each END by itself", Sentences.lines(Worlds.SOME, "away()", "hold(0, true) ! 8",
                "hold(1, false) ! 8"));
        SENTENCES.holds("away(): the SECTIONS, PAIRS and SIZES stay", Sentences.lines(Worlds.FULL, "away()",
                "told(0, 2) = 8", "told(0, 3) = 6", "pair(0, 0) ! 3", "size(1, 1) ! 3", "safe(2) = 7"));
        SENTENCES.holds("away(): twice", "span(2, 0)", "away() = true", "away() = true");
    }

    private static void hold() {
        SENTENCES.refusedEverywhere("an END is 0 or 1", 2, Sentences.outside("hold(#, true)", 0, 1));
        SENTENCES.refusedEverywhere("an END is 0 or 1", 2, Sentences.outside("hold(#, false)", 0, 1));
        SENTENCES.refusedIn(Worlds.BARE, "STATUS 8: not HELD already", 8, "hold(0, false)", "hold(1, false)");
        SENTENCES.refusedIn(Worlds.FULL, "STATUS 8: HELD already", 8, "hold(0, true)", "hold(1, true)");
        SENTENCES.refusedIn(Worlds.SOME, "STATUS 8: each END by itself", 8, "hold(0, true)", "hold(1, false)");
        SENTENCES.holds("hold(): the left END", "hold(0, true) = true", "hold(0, true) ! 8", "hold(1, false) ! 8",
                "hold(0, false) = true", "hold(0, false) ! 8");
        SENTENCES.holds("hold(): the right END", "hold(1, true) = true", "hold(1, true) ! 8", "hold(0, false) ! 8",
                "hold(1, false) = true", "hold(1, false) ! 8");
        SENTENCES.holds("hold(): before there is a SPAN", bench("hold(0, true)", "span(2, 1)", "load(0, 1, 1)",
                "times(0, 0) > 360/1"));
    }

    private static void load() {
        SENTENCES.refusedEverywhere("load(): no such SPAN", 1, Sentences.outside("load(#, 1, 1)", 0, 4));
        SENTENCES.refusedIn(Worlds.BARE, "load(): no SPAN yet", 1, "load(0, 1, 1)");
        SENTENCES.refusedIn(Worlds.SOME, "load(): behind the last SPAN", 1, "load(2, 1, 1)");
        SENTENCES.refusedIn(Worlds.SOME, "a place is from 1 to the length less 1", 2,
                Sentences.outside("load(0, #, 1)", 1, 9));
        SENTENCES.refusedIn(Worlds.SOME, "a place is from 1 to the length less 1", 2,
                Sentences.outside("load(1, #, 1)", 1, 3));
        SENTENCES.refusedIn(Worlds.FULL, "a place is from 1 to the length less 1", 2,
                Sentences.outside("load(3, #, 1)", 1, 49));
        SENTENCES.refusedIn(new String[] {"span(2, 0)"}, "a place is from 1 to the length less 1: of 2, 1 alone", 2,
                Sentences.outside("load(0, #, 1)", 1, 1));
        SENTENCES.holds("a place can be 1", bench("span(10, 1)", "load(0, 1, 1) = 0", "times(0, 0) > 400/3"));
        SENTENCES.holds("a place can be the length less 1", bench("span(10, 1)", "load(0, 9, 1) = 0",
                "times(0, 0) > 400/3"));
        SENTENCES.refusedIn(Worlds.SOME, "a weight is 1 to 1,000", 2, Sentences.outside("load(0, 1, #)", 1, 1000));
        SENTENCES.refusedIn(Worlds.FULL, "a weight is 1 to 1,000", 2, Sentences.outside("load(4, 1, #)", 1, 1000));
        SENTENCES.holds("a weight can be 1", bench("span(2, 1)", "load(0, 1, 1) = 0", "times(0, 0) > 240/1"));
        SENTENCES.holds("a weight can be 1,000", bench("span(2, 1)", "load(0, 1, 1000) = 0", "times(0, 0) > 6/25"));
        SENTENCES.holds("LOADS are numbered in their SPAN as they come", "span(9, 0)", "span(9, 0)", "load(1, 5, 1) = 0",
                "load(0, 5, 1) = 0", "load(1, 3, 1) = 1", "load(0, 7, 1) = 1");
        SENTENCES.holds("at most 2 LOADS in a SPAN", "span(9, 0)", "load(0, 5, 1) = 0", "load(0, 4, 1) = 1",
                "load(0, 3, 1) ! 3");
        SENTENCES.refusedIn(Worlds.FULL, "at most 2 LOADS in a SPAN", 3, "load(0, 1, 1)", "load(1, 1, 1)",
                "load(3, 1, 1000)", "load(4, 1, 1)");
        SENTENCES.holds("STATUS 7: not two at one place", "span(9, 0)", "load(0, 5, 1) = 0", "load(0, 5, 1) ! 7",
                "load(0, 5, 1000) ! 7", "load(0, 4, 1) = 1");
        SENTENCES.refusedIn(Worlds.SOME, "STATUS 7: not two at one place", 7, "load(0, 5, 4)", "load(1, 1, 1)");
        SENTENCES.holds("the same place in another SPAN can be", "span(9, 0)", "span(9, 0)", "load(0, 5, 1) = 0",
                "load(1, 5, 1) = 0");
        SENTENCES.holds("STATUS 7: a length of 2 has one place", "span(2, 0)", "load(0, 1, 1) = 0", "load(0, 1, 1) ! 7");
    }

    private static void supports() {
        SENTENCES.holds("HOG of an END that isn't HELD is 0", bench("span(2, 1)", "load(0, 1, 1)",
                "times(0, 0) > 240/1"));
        SENTENCES.holds("HOG of the left END that is HELD", bench("span(4, 1)", "load(0, 1, 1)", "hold(0, true)",
                "times(0, 0) > 280/1"));
        SENTENCES.holds("HOG of the right END that is HELD", bench("span(4, 1)", "load(0, 1, 1)", "hold(1, true)",
                "times(0, 0) > 200/1"));
        SENTENCES.holds("both ENDS HELD", bench("span(4, 1)", "load(0, 1, 1)", "hold(0, true)", "hold(1, true)",
                "times(0, 0) > 320/1"));
        SENTENCES.holds("an END that is HELD has the HOG of its own SPAN", bench("span(4, 3)", "span(4, 1)",
                "hold(0, true)", "hold(1, true)", "load(0, 2, 1)", "load(1, 2, 1)", "times(0, 0) > 20/1",
                "times(1, 0) > 185/1"));
        SENTENCES.holds("HOG between two SPANS is the lesser, the left one", bench("span(4, 0)", "span(4, 1)",
                "load(0, 2, 1)", "load(1, 2, 1)", "times(0, 0) > 249/2", "times(1, 0) > 291/2"));
        SENTENCES.holds("HOG between two SPANS is the lesser, the right one", bench("span(4, 1)", "span(4, 0)",
                "load(0, 2, 1)", "load(1, 2, 1)", "times(0, 0) > 291/2", "times(1, 0) > 249/2"));
        SENTENCES.holds("HOG between two SPANS, both no whole numbers", "stone(0, 1, 0)", "rod(0, 100, 1)",
                "band(0, 3, 0, 9)", "stone(1, 1, 0)", "rod(1, 100, 1)", "band(1, 2, 0, 9)", "bend(0, 0, false) > -599/6",
                "bend(1, 0, false) > -399/4", "span(4, 0)", "span(4, 1)", "load(0, 2, 1)", "load(1, 2, 1)",
                "times(0, 0) > 399/8", "times(1, 0) > 399/8", "away()", "span(4, 1)", "span(4, 0)", "load(0, 2, 1)",
                "times(0, 0) > 399/8");
        SENTENCES.holds("HOG between two SPANS that are alike", bench("span(4, 1)", "span(4, 1)", "load(0, 2, 1)",
                "times(0, 0) > 180/1"));
        SENTENCES.holds("HOG beside a SECTION that bears nothing is 0", bench("span(4, 2)", "span(4, 1)", "span(4, 2)",
                "load(1, 2, 1)", "load(0, 2, 1)", "times(1, 0) > 120/1", "times(0, 0) > 0/1"));
        SENTENCES.holds("ENDS don't reach the SPANS between", bench("span(4, 1)", "span(4, 1)", "span(4, 1)",
                "load(1, 2, 1)", "times(1, 0) > 240/1", "hold(0, true)", "hold(1, true)", "times(1, 0) > 240/1"));
    }

    private static void free() {
        SENTENCES.holds("FREE at the LOAD's own place, both ways alike", bench("span(10, 1)", "load(0, 3, 1)",
                "times(0, 0) > 400/7"));
        SENTENCES.holds("FREE of both LOADS, x up to a", bench("span(10, 1)", "load(0, 3, 7)", "load(0, 8, 11)",
                "times(0, 0) > 400/71"));
        SENTENCES.holds("FREE of both LOADS, x from a on", bench("span(10, 1)", "load(0, 3, 7)", "load(0, 8, 11)",
                "times(0, 1) > 600/109"));
        SENTENCES.holds("FREE: LOADS that come from the right", bench("span(10, 1)", "load(0, 8, 11)", "load(0, 3, 7)",
                "times(0, 0) > 600/109", "times(0, 1) > 400/71"));
        SENTENCES.holds("FREE: as much as may be", bench("span(50, 1)", "load(0, 25, 1000)", "load(0, 24, 1000)",
                "times(0, 0) > 6/1225", "times(0, 1) > 1/204"));
        SENTENCES.holds("FREE: LOADS of other SPANS don't count", bench("span(10, 1)", "load(0, 3, 1)", "span(10, 2)",
                "load(1, 3, 1000)", "times(0, 0) > 400/7"));
    }

    private static void times() {
        SENTENCES.refusedEverywhere("times(): no such SPAN", 1, Sentences.outside("times(#, 0)", 0, 4));
        SENTENCES.refusedEverywhere("times(): no such LOAD", 1, Sentences.outside("times(0, #)", 0, 1));
        SENTENCES.refusedIn(Worlds.BARE, "times(): no SPAN yet", 1, "times(0, 0)");
        SENTENCES.refusedIn(new String[] {"span(2, 0)"}, "times(): no LOAD yet", 1, "times(0, 0)");
        SENTENCES.refusedIn(Worlds.SOME, "times(): behind the last SPAN", 1, "times(2, 0)");
        SENTENCES.refusedIn(Worlds.SOME, "times(): behind the last LOAD", 1, "times(0, 1)", "times(1, 1)");
        SENTENCES.holds("TIMES of a LOAD on what bears nothing", "span(2, 0)", "load(0, 1, 1)", "times(0, 0) > 0/1");
        SENTENCES.holds("TIMES of the last LOAD of all", bench(Sentences.repeat(5, "span(4, 1)"),
                Sentences.repeat(5, "load(#, 1, 1)"), Sentences.repeat(5, "load(#, 2, 1)"), "times(4, 1) > 120/1"));
        SENTENCES.holds("TIMES without STONE cut: SAG alone", bench("span(2, 3)", "load(0, 1, 1)", "times(0, 0) > 20/1"));
    }

    private static void factor() {
        SENTENCES.refusedIn(Worlds.BARE, "STATUS 6: there is no SPAN", 6, "factor()", "weakest()");
        SENTENCES.refusedIn(Sentences.repeat(5, "span(9, 0)"), "STATUS 6: there is no LOAD", 6, "factor()", "weakest()");
        SENTENCES.refusedIn(Sentences.lines(Worlds.FULL, "away()"), "STATUS 6: all LOADS are gone", 6, "factor()",
                "weakest()");
        SENTENCES.holds("FACTOR of one LOAD", bench("span(9, 2)", "span(10, 1)", "load(1, 5, 1)", "factor() > 48/1",
                "weakest() = 10"));
        SENTENCES.holds("FACTOR: the least of all, the first of them", bench("span(10, 1)", "load(0, 3, 8)",
                "load(0, 9, 1)", "factor() > 400/57", "weakest() = 0"));
        SENTENCES.holds("FACTOR: the least of all, the last of them", bench(Sentences.repeat(5, "span(10, 1)"),
                Sentences.repeat(5, "load(#, 1, 1)"), Sentences.repeat(4, "load(#, 8, 1)"), "load(4, 5, 1000)",
                "factor() > 120/1667", "weakest() = 41"));
        SENTENCES.holds("FACTOR of 0", bench("span(10, 1)", "load(0, 5, 1)", "span(10, 2)", "load(1, 5, 1)",
                "factor() > 0/1", "weakest() = 10"));
    }

    private static void weakest() {
        SENTENCES.holds("weakest(): the SPAN 0 and the LOAD 0", bench("span(10, 1)", "load(0, 5, 1)", "weakest() = 0"));
        SENTENCES.holds("weakest(): the LOAD 1", bench("span(10, 1)", "load(0, 9, 1)", "load(0, 5, 9)", "weakest() = 1"));
        SENTENCES.holds("weakest(): of two SPANS the first", bench("span(10, 1)", "span(10, 1)", "load(1, 7, 1)",
                "load(0, 3, 1)", "weakest() = 0"));
        SENTENCES.holds("weakest(): of two LOADS of one SPAN the first", bench("span(10, 1)", "load(0, 7, 1)",
                "load(0, 3, 1)", "times(0, 0) > 40/1", "times(0, 1) > 40/1", "weakest() = 0"));
        SENTENCES.holds("weakest(): a later one by a hair", bench("span(10, 1)", "span(50, 1)", "span(10, 1)",
                "load(0, 5, 999)", "load(2, 5, 1000)", "weakest() = 20"));
        SENTENCES.holds("weakest(): where nothing is borne at all, the first", "span(9, 0)", "span(9, 0)",
                "load(1, 4, 9)", "load(1, 5, 1)", "weakest() = 10", "load(0, 3, 1)", "weakest() = 0");
    }

    public static void main(String[] args) {
        span();
        away();
        hold();
        load();
        supports();
        free();
        times();
        factor();
        weakest();
        DUE.end();
    }
}
