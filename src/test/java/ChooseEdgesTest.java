/** The edges of promises 14 to 20 and of the Terms on PAIRS and SIZES, a sentence each. */
public final class ChooseEdgesTest {
    private static final Due DUE = new Due("ChooseEdgesTest");
    private static final Sentences SENTENCES = new Sentences(DUE);

    /** Six RODS at the MIDDLE: a PAIR (N, 0) asks for so much strength together. */
    private static final String[] SIX_RODS = Sentences.repeat(6, "rod(0, 50, 7)");

    private static void sections() {
        String[] calls = {"safe(#)", "best(#)", "chosen(#, 0)", "take(#)"};
        for (String call : calls) {
            SENTENCES.refusedEverywhere("SECTIONS 0 to 3", 1, Sentences.outside(call, 0, 3));
            SENTENCES.holds("SECTIONS 0 to 3", Sentences.lines("rod(0, 50, 1)", "rod(3, 50, 1)",
                    Sentences.with(call, "0", "3")));
        }
        SENTENCES.holds("each SECTION has a BEST of its own", "rod(0, 50, 0)", "rod(3, 50, 0)", "rod(3, 50, 0)",
                "size(5, 9)", "pair(5, 0)", "best(0) = 9", "chosen(0, 0) = 0", "best(3) = 9", "chosen(3, 0) = -2",
                "chosen(3, 1) = 0", "best(1) ! 5", "take(3) = 1", "strength(0, 0) = 0", "strength(3, 1) = 5");
    }

    private static void pair() {
        for (String call : new String[] {"pair(#, 0)", "pair(0, #)"}) {
            SENTENCES.refusedEverywhere("N and M of a PAIR are -1,000,000 to 1,000,000", 2,
                    Sentences.outside(call, -1000000, 1000000));
        }
        SENTENCES.holds("a PAIR's N can be 1,000,000", "pair(1000000, 0) = 0", "safe(0) = 0");
        SENTENCES.holds("a PAIR's N can be -1,000,000", "pair(-1000000, 0) = 0", "safe(0) = 0");
        SENTENCES.holds("a PAIR's M can be 1,000,000", "pair(0, 1000000) = 0", "safe(0) = 0");
        SENTENCES.holds("a PAIR's M can be -1,000,000", "pair(0, -1000000) = 0", "safe(0) = 0");
        SENTENCES.holds("the greatest PAIRS that can be, borne", Sentences.lines("stone(0, 50, 50)",
                Sentences.repeat(8, "band(0, 100, 0, 100)"), "pair(1000000, 1000000) = 0",
                "pair(1000000, -1000000) = 1", "safe(0) = -2"));
        SENTENCES.holds("PAIRS are numbered as they come", Sentences.repeat(8, "pair(#, -#) = #"));
        SENTENCES.holds("at most 8 PAIRS", Sentences.lines(Sentences.repeat(8, "pair(0, 0) = #"), "pair(0, 0) ! 3",
                "pair(1, 1) ! 3", "safe(0) = -2"));
        SENTENCES.refusedIn(Worlds.FULL, "at most 8 PAIRS", 3, "pair(0, 0)", "pair(1000000, 1000000)",
                "pair(-1000000, -1000000)");
        SENTENCES.holds("all SECTIONS have the same PAIRS", "pair(0, 0)", "pair(1, 0)", "safe(0) = 1", "safe(1) = 1",
                "safe(2) = 1", "safe(3) = 1", "band(3, 1, 0, 1)", "safe(3) = 1", "rod(3, 50, 1)", "safe(3) = -2",
                "safe(0) = 1");
        SENTENCES.holds("two PAIRS may be alike", "pair(3, 4) = 0", "pair(3, 4) = 1");
    }

    private static void clear() {
        SENTENCES.holds("clear(): without PAIRS", "clear() = true", "pair(0, 0) = 0");
        SENTENCES.holds("clear(): all 8 PAIRS are gone", Sentences.lines(Worlds.FULL, "safe(2) = 7", "clear() = true",
                "safe(0) = -2", "safe(1) = -2", "safe(2) = -2", "safe(3) = -2", "best(3) = 0"));
        SENTENCES.holds("clear(): again 8 PAIRS", Sentences.lines(Sentences.repeat(8, "pair(0, 1)"), "clear() = true",
                Sentences.repeat(8, "pair(0, 0) = #"), "pair(0, 0) ! 3", "safe(0) = -2"));
        SENTENCES.holds("clear(): a PAIR that is gone doesn't come back", "pair(0, 0)", "pair(0, 1)", "clear()",
                "pair(0, 0) = 0", "safe(0) = -2");
        SENTENCES.holds("clear(): twice", "pair(0, 0)", "clear() = true", "clear() = true");
        SENTENCES.holds("clear(): the SIZES stay", Sentences.lines(Worlds.FULL, "clear()", "pair(-40, 0)", "best(1) = 15",
                "size(1, 1) ! 3"));
        SENTENCES.holds("clear(): the SECTIONS stay", Sentences.lines(Worlds.FULL, "clear()", "told(0, 2) = 8",
                "told(0, 3) = 6", "strength(0, 5) = 40"));
        SENTENCES.holds("clear(): the BEAM stays", Sentences.lines(Worlds.FULL, "clear()", "times(3, 0) > 975/358",
                "hold(0, true) ! 8", "hold(1, true) ! 8", "span(2, 0) ! 3"));
    }

    private static void safe() {
        SENTENCES.holds("safe(): -2 without PAIRS", "safe(0) = -2", "safe(3) = -2");
        SENTENCES.holds("safe(): the first of all", "pair(0, 1)", "pair(0, 0)", "pair(0, 1)", "safe(0) = 0");
        SENTENCES.holds("safe(): the last of all", Sentences.lines(Sentences.repeat(7, "pair(0, 0)"), "safe(0) = -2",
                "pair(0, 1)", "safe(0) = 7"));
        SENTENCES.holds("safe(): of several the first", "pair(0, 0)", "pair(0, 1)", "pair(0, -1)", "safe(0) = 1");
        SENTENCES.holds("safe(): a PAIR at HIGH", Sentences.lines(Worlds.SOME, "clear()", "pair(0, 99)",
                "safe(0) = -2", "pair(0, 100)", "safe(0) = 1"));
        SENTENCES.holds("safe(): a PAIR at LOW", Sentences.lines(Worlds.SOME, "clear()", "pair(0, -51)",
                "safe(0) = -2", "pair(0, -52)", "safe(0) = 1"));
        SENTENCES.holds("safe(): a PAIR at MOST", Sentences.lines(Worlds.SOME, "clear()", "pair(78, -24)",
                "safe(0) = -2", "pair(79, -24)", "safe(0) = 1"));
        SENTENCES.holds("safe(): a PAIR at LEAST", Sentences.lines(Worlds.SOME, "clear()", "pair(-18, 24)",
                "safe(0) = -2", "pair(-19, 24)", "safe(0) = 1"));
        SENTENCES.holds("safe(): by the RODS as they are", Sentences.lines(SIX_RODS, "pair(42, 0)", "safe(0) = -2",
                "change(0, 5, 6)", "safe(0) = 0"));
    }

    private static void size() {
        SENTENCES.refusedEverywhere("a SIZE's strength is 1 to 200", 2, Sentences.outside("size(#, 1)", 1, 200));
        SENTENCES.refusedEverywhere("a SIZE's PRICE is 1 to 10,000", 2, Sentences.outside("size(1, #)", 1, 10000));
        SENTENCES.holds("a SIZE's strength can be 1", "rod(0, 50, 9)", "size(1, 4) = 0", "pair(1, 0)", "best(0) = 4",
                "take(0) = 1", "strength(0, 0) = 1", "pair(2, 0)", "best(0) ! 5");
        SENTENCES.holds("a SIZE's strength can be 200", "rod(0, 50, 9)", "size(200, 4) = 0", "pair(200, 0)",
                "best(0) = 4", "take(0) = 1", "strength(0, 0) = 200", "pair(201, 0)", "best(0) ! 5");
        SENTENCES.holds("a SIZE's PRICE can be 1", "rod(0, 50, 9)", "size(5, 1) = 0", "pair(1, 0)", "best(0) = 1");
        SENTENCES.holds("a SIZE's PRICE can be 10,000", "rod(0, 50, 9)", "size(5, 10000) = 0", "pair(1, 0)",
                "best(0) = 10000");
        SENTENCES.holds("SIZES are numbered as they come", Sentences.repeat(4, "size(10#, 2#) = #"));
        SENTENCES.holds("at most 4 SIZES", Sentences.lines(Sentences.repeat(4, "size(1, 1) = #"), "size(1, 1) ! 3",
                "size(200, 10000) ! 3"));
        SENTENCES.refusedIn(Worlds.FULL, "at most 4 SIZES", 3, "size(1, 1)", "size(200, 1)", "size(200, 10000)");
        SENTENCES.holds("two SIZES may be alike", "size(5, 6) = 0", "size(5, 6) = 1");
    }

    private static void best() {
        SENTENCES.holds("BEST without PAIRS: none for each ROD", Sentences.lines(SIX_RODS, "size(5, 1)", "best(0) = 0",
                Sentences.repeat(6, "chosen(0, #) = -2")));
        SENTENCES.holds("BEST without RODS, SAFE", "pair(0, 0)", "size(5, 1)", "best(0) = 0", "take(0) = 0");
        SENTENCES.holds("BEST without RODS, not SAFE", "pair(1, 0)", "size(5, 1)", "best(0) ! 5", "take(0) ! 5");
        SENTENCES.holds("BEST without SIZES, SAFE", Sentences.lines(SIX_RODS, "pair(0, 0)", "best(0) = 0",
                "chosen(0, 5) = -2"));
        SENTENCES.holds("BEST without SIZES: what strength the RODS have doesn't count", Sentences.lines(SIX_RODS,
                "pair(1, 0)", "safe(0) = -2", "best(0) ! 5", "chosen(0, 0) ! 5", "take(0) ! 5"));
        SENTENCES.holds("BEST with nothing at all", "best(0) = 0", "take(0) = 0", "chosen(0, 0) ! 1");
        SENTENCES.holds("BEST: the greatest PRICE of all", Sentences.lines(SIX_RODS, "size(200, 10000)",
                "pair(1200, 0)", "best(0) = 60000", Sentences.repeat(6, "chosen(0, #) = 0"), "take(0) = 6",
                "told(0, 5) = 1200", "safe(0) = -2"));
        SENTENCES.holds("STATUS 5: it can't be SAFE, by 1", Sentences.lines(SIX_RODS, "size(200, 10000)",
                "pair(1201, 0)", "best(0) ! 5", "chosen(0, 5) ! 5", "take(0) ! 5"));
        SENTENCES.refusedIn(Worlds.FULL, "STATUS 5: it can't be SAFE", 5, "best(3)", "chosen(3, 0)", "chosen(3, 5)",
                "take(3)");
        SENTENCES.refusedIn(Worlds.SOME, "STATUS 5: it can't be SAFE without RODS", 5, "best(2)", "take(2)");
        SENTENCES.holds("BEST: SAFE by a hair", "rod(0, 50, 0)", "size(9, 1)", "size(10, 2)", "pair(-9, 0)",
                "best(0) = 1", "pair(-10, 0)", "best(0) = 2", "pair(-11, 0)", "best(0) ! 5");
        SENTENCES.holds("best(): the RODS stay as they are", Sentences.lines(SIX_RODS, "size(9, 1)", "pair(9, 0)",
                "best(0) = 1", Sentences.repeat(6, "strength(0, #) = 7")));
        SENTENCES.holds("BEST: all told PAIRS, the last of 8 too", Sentences.lines("rod(0, 50, 0)",
                Sentences.repeat(7, "pair(#, 0)"), "size(6, 1)", "size(9, 5)", "best(0) = 1", "pair(9, 0) = 7",
                "best(0) = 5"));
    }

    private static void bestOfSeveral() {
        String[] rods = {"rod(0, 50, 0)", "rod(0, 50, 0)"};
        SENTENCES.holds("BEST: the least PRICE, though it comes last", Sentences.lines(rods, "size(10, 9)", "size(10, 8)",
                "size(5, 4)", "size(10, 7)", "pair(10, 0)", "best(0) = 7", "chosen(0, 0) = -2", "chosen(0, 1) = 3"));
        SENTENCES.holds("BEST: of several none goes ahead of SIZE 0", Sentences.lines(rods, "size(10, 9)",
                "pair(10, 0)", "best(0) = 9", "chosen(0, 0) = -2", "chosen(0, 1) = 0"));
        SENTENCES.holds("BEST: of several SIZE 0 goes ahead of SIZE 1", Sentences.lines(rods, "size(10, 9)",
                "size(20, 9)", "pair(10, 0)", "best(0) = 9", "chosen(0, 0) = -2", "chosen(0, 1) = 0"));
        SENTENCES.holds("BEST: of several SIZE 0 goes ahead, though weaker", Sentences.lines(rods, "size(5, 3)",
                "size(15, 7)", "pair(20, 0)", "best(0) = 10", "chosen(0, 0) = 0", "chosen(0, 1) = 1"));
        SENTENCES.holds("BEST: of several SIZE 2 goes ahead of SIZE 3", Sentences.lines(rods, "size(1, 1)", "size(2, 2)",
                "size(30, 9)", "size(40, 9)", "pair(30, 0)", "best(0) = 9", "chosen(0, 0) = -2", "chosen(0, 1) = 2"));
        SENTENCES.holds("BEST: ROD 0 decides ahead of ROD 1", Sentences.lines(rods, "size(5, 5)", "size(10, 10)",
                "pair(15, 0)", "best(0) = 15", "chosen(0, 0) = 0", "chosen(0, 1) = 1"));
        SENTENCES.holds("BEST: fewer of the dear or more of the cheap, at one PRICE", Sentences.lines(SIX_RODS,
                "size(1, 1)", "size(6, 6)", "pair(6, 0)", "best(0) = 6", Sentences.repeat(5, "chosen(0, #) = -2"),
                "chosen(0, 5) = 1"));
    }

    private static void chosen() {
        SENTENCES.refusedEverywhere("chosen(): no such ROD", 1, Sentences.outside("chosen(0, #)", 0, 5));
        SENTENCES.refusedIn(Worlds.BARE, "chosen(): no ROD yet", 1, "chosen(0, 0)");
        SENTENCES.refusedIn(Worlds.SOME, "chosen(): behind the last ROD", 1, "chosen(0, 2)", "chosen(2, 0)");
        SENTENCES.holds("chosen(): -2 is none", "rod(0, 50, 3)", "size(3, 1)", "chosen(0, 0) = -2");
        SENTENCES.holds("chosen(): the first SIZE and the last", "rod(0, 0, 0)", "rod(0, 100, 0)", "size(1, 1)",
                "size(2, 9)", "size(2, 9)", "size(2, 8)", "pair(-1, -50)", "pair(0, 0)", "pair(2, 100)",
                "best(0) = 8", "chosen(0, 0) = -2", "chosen(0, 1) = 3", "pair(0, 100)", "best(0) = 9",
                "chosen(0, 0) = 0", "chosen(0, 1) = 3");
        SENTENCES.holds("chosen(): the last of 6 RODS", Sentences.lines(SIX_RODS, "size(5, 1)", "pair(5, 0)",
                "chosen(0, 5) = 0", "chosen(0, 4) = -2"));
        SENTENCES.holds("chosen(): the RODS stay as they are", Sentences.lines(SIX_RODS, "size(9, 1)", "pair(9, 0)",
                "chosen(0, 5) = 0", Sentences.repeat(6, "strength(0, #) = 7")));
    }

    private static void take() {
        SENTENCES.holds("take(): none changed", Sentences.lines(Sentences.repeat(6, "rod(0, 50, 0)"), "take(0) = 0"));
        SENTENCES.holds("take(): all changed", Sentences.lines(SIX_RODS, "take(0) = 6",
                Sentences.repeat(6, "strength(0, #) = 0")));
        SENTENCES.holds("take(): a ROD of that strength already isn't changed", "rod(0, 50, 5)", "rod(0, 50, 5)",
                "size(5, 1)", "pair(5, 0)", "take(0) = 1", "strength(0, 0) = 0", "strength(0, 1) = 5");
        SENTENCES.holds("take(): again none changed", Sentences.lines(SIX_RODS, "size(9, 1)", "pair(9, 0)",
                "take(0) = 6", "take(0) = 0", "best(0) = 1", "change(0, 0, 1)", "take(0) = 1", "strength(0, 0) = 0"));
        SENTENCES.holds("take(): no RODS", "take(0) = 0");
        SENTENCES.holds("take(): the other SECTIONS stay", Sentences.lines(Worlds.FULL, "take(2) = 6",
                "strength(0, 0) = 40", "strength(1, 0) = 15", "strength(3, 0) = 5"));
        SENTENCES.holds("take(): it is SAFE then", Sentences.lines(Worlds.FULL, "safe(2) = 7", "take(2) = 6",
                "safe(2) = -2"));
    }

    /** BEST is that of what there is now: each call that can change it is one of its own here. */
    private static void bestFollows() {
        String[] asked = {"rod(0, 0, 0)", "rod(0, 100, 0)", "size(10, 3)", "pair(0, 500)", "best(0) = 6"};
        SENTENCES.holds("BEST after stone()", Sentences.lines(asked, "stone(0, 10, 50)", "best(0) ! 5"));
        SENTENCES.holds("BEST after band()", Sentences.lines(asked, "band(0, 1, 0, 100)", "best(0) = 3",
                "chosen(0, 0) = 0", "chosen(0, 1) = -2"));
        SENTENCES.holds("BEST after rod()", Sentences.lines(asked, "rod(0, 0, 0)", "best(0) = 6", "chosen(0, 0) = -2",
                "chosen(0, 1) = 0", "chosen(0, 2) = 0"));
        SENTENCES.holds("BEST after change()", Sentences.lines(asked, "change(0, 0, 200)", "best(0) = 6",
                "chosen(0, 0) = 0", "take(0) = 2", "strength(0, 0) = 10"));
        SENTENCES.holds("BEST after pair()", Sentences.lines(asked, "pair(0, 1001)", "best(0) ! 5", "take(0) ! 5"));
        SENTENCES.holds("BEST after clear()", Sentences.lines(asked, "clear()", "best(0) = 0", "chosen(0, 0) = -2"));
        SENTENCES.holds("BEST after size()", Sentences.lines(asked, "size(10, 2)", "best(0) = 4", "chosen(0, 1) = 1"));
        SENTENCES.holds("BEST after take()", Sentences.lines(asked, "take(0) = 2", "best(0) = 6", "take(0) = 0"));
        SENTENCES.holds("BEST of another SECTION after all that", Sentences.lines(asked, "best(1) ! 5",
                "rod(1, 0, 1)", "rod(1, 100, 1)", "best(1) = 6", "best(0) = 6", "stone(1, 1, 1)", "best(1) ! 5",
                "best(0) = 6"));
    }

    public static void main(String[] args) {
        sections();
        pair();
        clear();
        safe();
        size();
        best();
        bestOfSeveral();
        chosen();
        take();
        bestFollows();
        DUE.end();
    }
}
