/** The edges of promises 4 to 13 and of the Terms on SECTIONS, a sentence of the document each. */
public final class SectionEdgesTest {
    private static final Due DUE = new Due("SectionEdgesTest");
    private static final Sentences SENTENCES = new Sentences(DUE);

    /** 8 BANDS of 100 by 100 and an f of 50: MOST is 4,000,000, and 40,000 of it each 1 of height. */
    private static final String[] GREATEST = Sentences.lines("stone(0, 50, 50)",
            Sentences.repeat(8, "band(0, 100, 0, 100)"));

    private static void sections() {
        String[] calls = {"stone(#, 1, 0)", "band(#, 1, 0, 1)", "rod(#, 0, 0)", "change(#, 0, 0)", "told(#, 0)",
            "strength(#, 0)", "width(#, 0)", "bend(#, 0, true)", "bend(#, 0, false)", "cut(#, 0, true)",
            "cut(#, 0, false)", "borne(#, 0, 0)"};
        for (String call : calls) {
            SENTENCES.refusedEverywhere("SECTIONS 0 to 3", 1, Sentences.outside(call, 0, 3));
        }
        String[] first = {"rod(0, 50, 1)", "rod(3, 50, 1)"};
        for (String call : calls) {
            SENTENCES.holds("SECTIONS 0 to 3", Sentences.lines(first, Sentences.with(call, "0", "3")));
        }
        SENTENCES.holds("each SECTION is one of its own", "stone(0, 1, 1)", "stone(3, 2, 2)", "band(1, 3, 0, 1)",
                "rod(2, 0, 4)", "told(0, 0) = 1", "told(3, 0) = 2", "told(1, 0) = 10", "told(2, 0) = 10",
                "told(1, 2) = 1", "told(0, 2) = 0", "told(2, 2) = 0", "told(2, 3) = 1", "told(1, 3) = 0",
                "told(3, 3) = 0");
    }

    private static void stone() {
        SENTENCES.refusedEverywhere("f is 1 to 50", 2, Sentences.outside("stone(0, #, 0)", 1, 50));
        SENTENCES.holds("f is 1 to 50: 1 can be", "stone(0, 1, 0) = true", "told(0, 0) = 1");
        SENTENCES.holds("f is 1 to 50: 50 can be", "stone(0, 50, 0) = true", "told(0, 0) = 50");
        SENTENCES.refusedEverywhere("z is 0 to 100", 2, Sentences.outside("stone(3, 1, #)", 0, 100));
        SENTENCES.holds("z is 0 to 100: 0 can be", "stone(0, 1, 0) = true", "told(0, 1) = 0");
        SENTENCES.holds("z is 0 to 100: 100 can be", "stone(0, 1, 100) = true", "told(0, 1) = 100");
        SENTENCES.holds("stone(): no BANDS", Sentences.lines(Worlds.FULL, "stone(1, 7, 8) = true", "told(1, 2) = 0",
                "told(1, 4) = 0", "width(1, 85) = 0", "band(1, 1, 0, 1) = 0", "told(1, 5) = 7"));
        SENTENCES.holds("stone(): no RODS", Sentences.lines(Worlds.FULL, "stone(1, 7, 8) = true", "told(1, 3) = 0",
                "told(1, 5) = 0", "told(1, 6) = 0", "strength(1, 0) ! 1", "change(1, 0, 1) ! 1", "rod(1, 0, 3) = 0"));
        SENTENCES.holds("stone(): as it was before too", "stone(0, 10, 50) = true", "stone(0, 10, 50) = true");
        SENTENCES.holds("stone(): the other SECTIONS stay", Sentences.lines(Worlds.FULL, "stone(1, 7, 8)",
                "told(0, 2) = 8", "told(0, 3) = 6", "told(2, 2) = 8", "told(2, 3) = 6"));
    }

    private static void band() {
        SENTENCES.refusedEverywhere("a BAND's width is 1 to 100", 2, Sentences.outside("band(0, #, 0, 100)", 1, 100));
        SENTENCES.holds("a BAND's width is 1 to 100: 1 can be", "band(0, 1, 0, 100) = 0", "told(0, 4) = 100");
        SENTENCES.holds("a BAND's width is 1 to 100: 100 can be", "band(0, 100, 0, 100) = 0", "told(0, 4) = 10000");
        SENTENCES.refusedEverywhere("a BAND is from a height of 0 to 100", 2,
                "band(0, 1, -1, 100)", "band(0, 1, MIN, 100)", "band(0, 1, -1, 0)", "band(0, 1, MIN, MIN)");
        SENTENCES.refusedEverywhere("a BAND is to a height of 0 to 100", 2,
                "band(0, 1, 0, 101)", "band(0, 1, 0, MAX)", "band(0, 1, 100, 101)", "band(0, 1, MAX, MAX)");
        SENTENCES.refusedEverywhere("a BAND is to a higher height", 2, "band(0, 1, 0, 0)", "band(0, 1, 100, 100)",
                "band(0, 1, 50, 50)", "band(0, 1, 51, 50)", "band(0, 1, 100, 0)", "band(0, 1, 0, -1)",
                "band(0, 1, 0, MIN)", "band(0, 1, MAX, 100)");
        SENTENCES.refusedEverywhere("heights as far off as an int goes", 2,
                "band(0, 1, MIN, MAX)", "band(0, 1, MAX, MIN)");
        SENTENCES.holds("a BAND is from 0 to 100: the whole height", "band(0, 1, 0, 100) = 0", "told(0, 4) = 100");
        SENTENCES.holds("a BAND is from 0 to 100: the lowest", "band(0, 1, 0, 1) = 0", "width(0, 0) = 1");
        SENTENCES.holds("a BAND is from 0 to 100: the highest", "band(0, 1, 99, 100) = 0", "width(0, 99) = 1");
        SENTENCES.holds("BANDS are numbered as they come", Sentences.repeat(8, "band(0, 1, 5#, 6#) = #"));
        SENTENCES.holds("at most 8 BANDS", Sentences.lines(Sentences.repeat(8, "band(0, 1, 0, 1) = #"),
                "told(0, 2) = 8", "band(0, 1, 0, 1) ! 3", "told(0, 2) = 8"));
        SENTENCES.refusedIn(Worlds.FULL, "at most 8 BANDS", 3, "band(0, 100, 0, 100)", "band(1, 1, 0, 1)",
                "band(2, 1, 99, 100)", "band(3, 1, 0, 1)");
        SENTENCES.holds("at most 8 BANDS, in each SECTION", Sentences.lines(Sentences.repeat(8, "band(0, 1, 0, 1)"),
                "band(0, 1, 0, 1) ! 3", Sentences.repeat(8, "band(3, 1, 0, 1) = #"), "band(3, 1, 0, 1) ! 3",
                "band(1, 1, 0, 1) = 0"));
        SENTENCES.holds("at most 8 BANDS, again after stone()", Sentences.lines(Worlds.FULL, "stone(0, 1, 0)",
                Sentences.repeat(8, "band(0, 1, 0, 1) = #"), "band(0, 1, 0, 1) ! 3"));
    }

    private static void rod() {
        SENTENCES.refusedEverywhere("a ROD's height is 0 to 100", 2, Sentences.outside("rod(0, #, 1)", 0, 100));
        SENTENCES.holds("a ROD's height is 0 to 100: 0 can be", "stone(0, 1, 0)", "rod(0, 0, 1) = 0",
                "bend(0, 1, true) > 0/1");
        SENTENCES.holds("a ROD's height is 0 to 100: 100 can be", "stone(0, 1, 0)", "rod(0, 100, 1) = 0",
                "bend(0, 1, true) > 100/1");
        SENTENCES.refusedEverywhere("a ROD's strength is 0 to 200", 2, Sentences.outside("rod(0, 50, #)", 0, 200));
        SENTENCES.holds("a ROD's strength is 0 to 200: 0 can be", "rod(0, 50, 0) = 0", "strength(0, 0) = 0");
        SENTENCES.holds("a ROD's strength is 0 to 200: 200 can be", "rod(0, 50, 200) = 0", "strength(0, 0) = 200");
        SENTENCES.holds("RODS are numbered as they come", Sentences.lines(Sentences.repeat(6, "rod(0, 9#, 10#) = #"),
                Sentences.repeat(6, "strength(0, #) = 10#")));
        SENTENCES.holds("at most 6 RODS", Sentences.lines(Sentences.repeat(6, "rod(0, 50, 1) = #"),
                "told(0, 3) = 6", "rod(0, 50, 1) ! 3", "told(0, 3) = 6"));
        SENTENCES.refusedIn(Worlds.FULL, "at most 6 RODS", 3, "rod(0, 0, 0)", "rod(1, 100, 200)", "rod(2, 50, 1)",
                "rod(3, 50, 1)");
        SENTENCES.holds("at most 6 RODS, in each SECTION", Sentences.lines(Sentences.repeat(6, "rod(0, 0, 0)"),
                "rod(0, 0, 0) ! 3", Sentences.repeat(6, "rod(3, 0, 0) = #"), "rod(3, 0, 0) ! 3", "rod(1, 0, 0) = 0"));
        SENTENCES.holds("at most 6 RODS, again after stone()", Sentences.lines(Worlds.FULL, "stone(0, 1, 0)",
                Sentences.repeat(6, "rod(0, 0, 0) = #"), "rod(0, 0, 0) ! 3"));
    }

    private static void change() {
        SENTENCES.refusedEverywhere("change(): no such ROD", 1, Sentences.outside("change(0, #, 1)", 0, 5));
        SENTENCES.refusedIn(Worlds.BARE, "change(): no ROD yet", 1, "change(0, 0, 1)");
        SENTENCES.refusedIn(Worlds.SOME, "change(): behind the last ROD", 1, "change(0, 2, 1)", "change(2, 0, 1)");
        SENTENCES.refusedIn(Worlds.SOME, "change(): a strength is 0 to 200", 2,
                Sentences.outside("change(0, 1, #)", 0, 200));
        SENTENCES.refusedIn(Worlds.FULL, "change(): a strength is 0 to 200", 2,
                Sentences.outside("change(3, 5, #)", 0, 200));
        SENTENCES.holds("change(): 0 can be", Sentences.lines(Worlds.SOME, "change(0, 0, 0) = true",
                "strength(0, 0) = 0", "strength(0, 1) = 6", "told(0, 6) = -6"));
        SENTENCES.holds("change(): 200 can be", Sentences.lines(Worlds.SOME, "change(0, 1, 200) = true",
                "strength(0, 1) = 200", "strength(0, 0) = 12", "told(0, 6) = -212"));
        SENTENCES.holds("change(): the last of 6 RODS", Sentences.lines(Worlds.FULL, "change(2, 5, 77) = true",
                "strength(2, 5) = 77", "strength(2, 4) = 3", "strength(3, 5) = 5"));
        SENTENCES.holds("change(): to what it is already", Sentences.lines(Worlds.SOME, "change(0, 0, 12) = true",
                "strength(0, 0) = 12"));
        SENTENCES.holds("strength(): as the ROD came, then as changed", "rod(0, 50, 1)", "strength(0, 0) = 1",
                "change(0, 0, 2)", "strength(0, 0) = 2", "change(0, 0, 3)", "strength(0, 0) = 3");
    }

    private static void strength() {
        SENTENCES.refusedEverywhere("strength(): no such ROD", 1, Sentences.outside("strength(0, #)", 0, 5));
        SENTENCES.refusedIn(Worlds.BARE, "strength(): no ROD yet", 1, "strength(0, 0)");
        SENTENCES.refusedIn(Worlds.SOME, "strength(): behind the last ROD", 1, "strength(0, 2)", "strength(3, 0)");
        SENTENCES.holds("strength(): the last of 6 RODS", Sentences.lines(Worlds.FULL, "strength(0, 5) = 40"));
    }

    private static void told() {
        SENTENCES.refusedEverywhere("told(): what is 0 to 6", 2, Sentences.outside("told(0, #)", 0, 6));
        SENTENCES.holds("told(): what is 0 to 6: all can be", Sentences.lines(Worlds.SOME, "told(0, 0) = 2",
                "told(0, 1) = 5", "told(0, 2) = 1", "told(0, 3) = 2", "told(0, 4) = 30", "told(0, 5) = 78",
                "told(0, 6) = -18"));
        SENTENCES.holds("told(): STATUS tells NONE from -1", "rod(0, 0, 1)", "told(0, 6) = -1", "status() = 0",
                "told(0, 7) ! 2", "status() = 2");
        SENTENCES.holds("told(): the greatest area", Sentences.lines(GREATEST, "told(0, 4) = 80000"));
        SENTENCES.holds("told(): the greatest MOST and the least LEAST", Sentences.lines(GREATEST,
                Sentences.repeat(6, "rod(0, 50, 200)"), "told(0, 5) = 4001200", "told(0, 6) = -1200"));
        SENTENCES.holds("told(): MOST and LEAST of nothing", "told(0, 5) = 0", "told(0, 6) = 0");
        SENTENCES.holds("told(): STONE alone never pulls", "band(0, 1, 0, 1)", "told(0, 5) = 10", "told(0, 6) = 0");
        SENTENCES.holds("told(): the area of a BAND off the foot", "band(0, 3, 99, 100)", "told(0, 4) = 3",
                "band(0, 5, 40, 60)", "told(0, 4) = 103");
        SENTENCES.holds("told(): BANDS at one height count together", "band(0, 2, 0, 10)", "band(0, 3, 0, 10)",
                "told(0, 4) = 50", "told(0, 5) = 500");
    }

    private static void width() {
        SENTENCES.refusedEverywhere("width(): a height is 0 to 99", 2, Sentences.outside("width(0, #)", 0, 99));
        SENTENCES.holds("width(): a height is 0 to 99: 0 can be", "band(0, 4, 0, 1)", "width(0, 0) = 4");
        SENTENCES.holds("width(): a height is 0 to 99: 99 can be", "band(0, 5, 99, 100)", "width(0, 99) = 5");
        SENTENCES.holds("width(): right above a BAND's foot", "band(0, 6, 20, 30)", "width(0, 19) = 0",
                "width(0, 20) = 6");
        SENTENCES.holds("width(): right above a BAND's top", "band(0, 6, 20, 30)", "width(0, 29) = 6",
                "width(0, 30) = 0");
        SENTENCES.holds("width(): where one BAND ends and another begins", "band(0, 6, 20, 30)", "band(0, 9, 30, 40)",
                "width(0, 29) = 6", "width(0, 30) = 9");
        SENTENCES.holds("width(): BANDS at one height together", "band(0, 6, 20, 30)", "band(0, 9, 29, 40)",
                "width(0, 28) = 6", "width(0, 29) = 15", "width(0, 30) = 9");
        SENTENCES.holds("width(): no BANDS", "width(0, 50) = 0");
        SENTENCES.holds("width(): as many and as wide as may be", Sentences.lines(GREATEST, "width(0, 0) = 800",
                "width(0, 99) = 800"));
    }

    private static void bend() {
        for (String call : new String[] {"bend(0, #, true)", "bend(0, #, false)"}) {
            outsideOfN(call);
        }
        SENTENCES.holds("HIGH and LOW: the greatest N that can be asked", Sentences.lines(GREATEST,
                "bend(0, 1000000, true) > 37500000/1", "bend(0, 1000000, false) > -37500000/1"));
        SENTENCES.holds("STONE is pushed from 0 on", "stone(0, 50, 0)", "band(0, 100, 0, 100)",
                "bend(0, 0, true) > 0/1", "bend(0, 0, false) > 0/1", "bend(0, -1, true) ! 4", "bend(0, -1, false) ! 4");
        SENTENCES.holds("STONE is pushed up to f", "stone(0, 50, 0)", "band(0, 100, 0, 100)",
                "bend(0, 500000, true) > 25000000/1", "bend(0, 500000, false) > 25000000/1",
                "bend(0, 500001, true) ! 4", "bend(0, 500001, false) ! 4");
        SENTENCES.holds("a ROD pulls up to its strength", "rod(0, 51, 200)", "bend(0, -200, true) > -200/1",
                "bend(0, -200, false) > -200/1", "bend(0, -201, true) ! 4", "bend(0, -201, false) ! 4");
        SENTENCES.holds("a ROD pushes up to its strength", "rod(0, 51, 200)", "bend(0, 200, true) > 200/1",
                "bend(0, 200, false) > 200/1", "bend(0, 201, true) ! 4", "bend(0, 201, false) ! 4");
        SENTENCES.holds("a ROD of strength 0 bears nothing", "rod(0, 51, 0)", "bend(0, 0, true) > 0/1",
                "bend(0, 1, true) ! 4", "bend(0, -1, true) ! 4");
        SENTENCES.holds("HIGH and LOW of nothing", "bend(0, 0, true) > 0/1", "bend(0, 0, false) > 0/1",
                "bend(0, 1, true) ! 4", "bend(0, -1, false) ! 4");
        SENTENCES.holds("BEND about the least MIDDLE", "stone(0, 1, 0)", "rod(0, 100, 1)", "rod(0, 0, 1)",
                "bend(0, 2, true) > 100/1", "bend(0, -2, true) > -100/1", "bend(0, 0, true) > 100/1");
        SENTENCES.holds("BEND about the greatest MIDDLE", "stone(0, 1, 100)", "rod(0, 100, 1)", "rod(0, 0, 1)",
                "bend(0, 2, true) > -100/1", "bend(0, -2, true) > 100/1", "bend(0, 0, false) > -100/1");
        SENTENCES.holds("one STATE alone has the PUSH MOST", Sentences.lines(Worlds.SOME,
                "bend(0, 78, true) > -24/1", "bend(0, 78, false) > -24/1", "bend(0, 79, true) ! 4",
                "bend(0, 79, false) ! 4"));
        SENTENCES.holds("one STATE alone has the PUSH LEAST", Sentences.lines(Worlds.SOME,
                "bend(0, -18, true) > 24/1", "bend(0, -18, false) > 24/1", "bend(0, -19, true) ! 4",
                "bend(0, -19, false) ! 4"));
        SENTENCES.holds("next to MOST and to LEAST", Sentences.lines(Worlds.SOME, "bend(0, 77, true) > -229/12",
                "bend(0, 77, false) > -347/12", "bend(0, -17, true) > 347/12", "bend(0, -17, false) > 229/12"));
    }

    private static void outsideOfN(String call) {
        SENTENCES.refusedEverywhere("N is -1,000,000 to 1,000,000", 2, Sentences.outside(call, -1000000, 1000000));
        SENTENCES.refusedIn(GREATEST, "N is up to 1,000,000, below MOST too", 2, Sentences.with(call, "1000001"));
        SENTENCES.refusedEverywhere("N of -1,000,000 can be, but is below LEAST", 4, Sentences.with(call, "-1000000"));
        SENTENCES.refusedEverywhere("N of 1,000,000 can be, but is above MOST", 4, Sentences.with(call, "1000000"));
    }

    private static void cut() {
        for (String call : new String[] {"cut(0, #, true)", "cut(0, #, false)"}) {
            outsideOfN(call);
        }
        SENTENCES.holds("CUT: the greatest N that can be asked", Sentences.lines(GREATEST,
                "cut(0, 1000000, true) > 75/1", "cut(0, 1000000, false) > 25/1"));
        SENTENCES.holds("CUT: PUSH above MOST", Sentences.lines(Worlds.SOME, "cut(0, 78, true) > 0/1",
                "cut(0, 79, true) ! 4", "cut(0, 79, false) ! 4"));
        SENTENCES.holds("CUT: PUSH below LEAST", Sentences.lines(Worlds.SOME, "cut(0, -18, true) > 100/1",
                "cut(0, -19, true) ! 4", "cut(0, -19, false) ! 4"));
        SENTENCES.holds("CUT of nothing", "cut(0, 0, true) > 100/1", "cut(0, 0, false) > 0/1", "cut(0, 1, true) ! 4",
                "cut(0, -1, false) ! 4");
        SENTENCES.holds("CUT is at most 100", "rod(0, 100, 5)", "cut(0, -5, true) > 100/1", "cut(0, 0, true) > 100/1",
                "cut(0, 5, true) > 100/1", "cut(0, 5, false) > 100/1");
        SENTENCES.holds("CUT is at least 0", "rod(0, 0, 5)", "cut(0, -5, false) > 0/1", "cut(0, 0, false) > 0/1",
                "cut(0, 5, false) > 0/1", "cut(0, 5, true) > 0/1");
    }

    /** Two blocks of 20 each, from 20 to 30 and from 60 to 70, and then RODS. */
    private static void cutOfSeveral() {
        String[] blocks = {"stone(0, 1, 0)", "band(0, 2, 20, 30)", "band(0, 2, 60, 70)"};
        SENTENCES.holds("CUT: of several the greatest for top", Sentences.lines(blocks, "cut(0, 0, true) > 100/1",
                "cut(0, 20, true) > 60/1", "cut(0, 40, true) > 20/1"));
        SENTENCES.holds("CUT: of several the least for foot", Sentences.lines(blocks, "cut(0, 0, false) > 0/1",
                "cut(0, 20, false) > 30/1", "cut(0, 40, false) > 70/1"));
        SENTENCES.holds("CUT: all STONE from it on is pushed", Sentences.lines(blocks, "cut(0, 1, true) > 139/2",
                "cut(0, 19, true) > 121/2", "cut(0, 21, true) > 59/2", "cut(0, 1, false) > 41/2",
                "cut(0, 21, false) > 121/2"));
        SENTENCES.holds("CUT: a ROD right at it has any push between", Sentences.lines(blocks, "rod(0, 40, 5)",
                "cut(0, 15, true) > 60/1", "cut(0, 16, true) > 40/1", "cut(0, 25, true) > 40/1",
                "cut(0, 26, true) > 59/2", "cut(0, 15, false) > 30/1", "cut(0, 16, false) > 40/1",
                "cut(0, 25, false) > 40/1", "cut(0, 26, false) > 121/2"));
        SENTENCES.holds("CUT: RODS right at it together", Sentences.lines(blocks, "rod(0, 65, 1)", "rod(0, 65, 2)",
                "cut(0, 7, true) > 65/1", "cut(0, 8, true) > 65/1", "cut(0, 13, true) > 65/1",
                "cut(0, 14, true) > 129/2", "cut(0, 6, true) > 131/2"));
        SENTENCES.holds("CUT: a ROD of strength 0 is none", Sentences.lines(blocks, "rod(0, 40, 0)", "rod(0, 90, 0)",
                "cut(0, 0, true) > 100/1", "cut(0, 20, true) > 60/1", "cut(0, 20, false) > 30/1"));
        SENTENCES.holds("CUT: RODS at other heights pull or push", "rod(0, 100, 10)", "rod(0, 100, 5)", "rod(0, 0, 7)",
                "cut(0, 8, true) > 100/1", "cut(0, 9, true) > 0/1", "cut(0, 22, true) > 0/1",
                "cut(0, -8, false) > 0/1", "cut(0, -7, false) > 100/1", "cut(0, 22, false) > 100/1");
    }

    /** 16 heights where a BAND begins or ends and 6 of RODS, none of them at 0 or 100. */
    private static void asManyHeightsAsMayBe() {
        String[] lines = new String[14];
        for (int b = 0; b < 8; b++) {
            lines[b] = "band(0, 1, " + (1 + 3 * b) + ", " + (50 + 5 * b) + ")";
        }
        for (int r = 0; r < 6; r++) {
            lines[8 + r] = "rod(0, " + (30 + 3 * r) + ", 10)";
        }
        SENTENCES.holds("at most 8 BANDS and 6 RODS, all at other heights", Sentences.lines("stone(0, 1, 0)", lines,
                "told(0, 5) = 508", "told(0, 6) = -60", "cut(0, -60, true) > 100/1", "cut(0, -60, false) > 0/1",
                "cut(0, -59, true) > 84/1", "cut(0, -59, false) > 2/1", "cut(0, 507, true) > 2/1",
                "cut(0, 507, false) > 84/1", "cut(0, 508, true) > 1/1", "cut(0, 508, false) > 85/1",
                "bend(0, -60, true) > -2250/1", "bend(0, 508, true) > 20282/1", "bend(0, 508, false) > 20282/1"));
    }

    private static void borne() {
        for (String call : new String[] {"borne(0, #, 0)", "borne(0, 0, #)"}) {
            SENTENCES.refusedEverywhere("N and M are -1,000,000 to 1,000,000", 2,
                    Sentences.outside(call, -1000000, 1000000));
        }
        SENTENCES.refusedIn(GREATEST, "M is up to 1,000,000, below HIGH too", 2, "borne(0, 1000000, 1000001)",
                "borne(0, 1000000, -1000001)", "borne(0, 1000001, 0)");
        SENTENCES.holds("the greatest N and M that can be, borne", Sentences.lines(GREATEST,
                "borne(0, 1000000, 1000000) = 1", "borne(0, 1000000, -1000000) = 1", "borne(0, 1000000, 0) = 1"));
        SENTENCES.holds("the greatest and least N and M that can be, not borne", "borne(0, 1000000, 0) = 0",
                "borne(0, -1000000, 0) = 0", "borne(0, 0, 1000000) = 0", "borne(0, 0, -1000000) = 0");
        SENTENCES.holds("BORNE up to HIGH", Sentences.lines(Worlds.SOME, "borne(0, 0, 99) = 1", "borne(0, 0, 100) = 0"));
        SENTENCES.holds("BORNE down to LOW", Sentences.lines(Worlds.SOME, "borne(0, 0, -51) = 1", "borne(0, 0, -52) = 0"));
        SENTENCES.holds("BORNE where HIGH and LOW are no whole numbers", "stone(0, 2, 5)", "band(0, 3, 0, 10)",
                "borne(0, 25, 72) = 1", "borne(0, 25, 73) = 0", "borne(0, 25, -72) = 1", "borne(0, 25, -73) = 0");
        SENTENCES.holds("BORNE with the PUSH MOST", Sentences.lines(Worlds.SOME, "borne(0, 78, -24) = 1",
                "borne(0, 78, -23) = 0", "borne(0, 78, -25) = 0"));
        SENTENCES.holds("BORNE with the PUSH LEAST", Sentences.lines(Worlds.SOME, "borne(0, -18, 24) = 1",
                "borne(0, -18, 23) = 0", "borne(0, -18, 25) = 0"));
        SENTENCES.holds("above MOST it isn't BORNE, but asked", Sentences.lines(Worlds.SOME, "borne(0, 79, -24) = 0"));
        SENTENCES.holds("below LEAST it isn't BORNE, but asked", Sentences.lines(Worlds.SOME, "borne(0, -19, 24) = 0"));
        SENTENCES.holds("nothing bears (0, 0) alone", "borne(0, 0, 0) = 1", "borne(0, 0, 1) = 0", "borne(0, 0, -1) = 0",
                "borne(0, 1, 0) = 0", "borne(0, -1, 0) = 0");
    }

    public static void main(String[] args) {
        sections();
        stone();
        band();
        rod();
        change();
        strength();
        told();
        width();
        bend();
        cut();
        cutOfSeveral();
        asManyHeightsAsMayBe();
        borne();
        DUE.end();
    }
}
