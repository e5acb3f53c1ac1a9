/** What can stand on the bench when a call is refused: nothing, some of everything, all of it. */
final class Worlds {
    static final String[] BARE = {};

    /** SECTION 0 has SAG 99 and HOG 51; SECTION 1 is RODS alone, SECTION 2 nothing, 3 STONE alone. */
    static final String[] SOME = {
        "stone(0, 2, 5)", "band(0, 3, 0, 10)", "rod(0, 1, 12)", "rod(0, 9, 6)",
        "rod(1, 0, 2)", "rod(1, 100, 2)",
        "stone(3, 50, 100)", "band(3, 100, 0, 100)",
        "pair(0, 50)", "pair(0, -20)", "size(12, 5)", "size(6, 2)",
        "span(10, 0)", "span(4, 1)", "load(0, 5, 4)", "load(1, 1, 10)", "hold(0, true)",
    };

    /** SECTIONS 0 and 1 are SAFE, 2 can be made so, 3 never. */
    static final String[] FULL = Sentences.lines(
            section(0, 1, 20, 40), section(1, 2, 10, 15), section(2, 50, 20, 3), section(3, 3, 0, 5),
            "pair(0, 0)", "pair(10, 500)", "pair(10, -500)", "pair(-10, 0)",
            "pair(0, 700)", "pair(0, -700)", "pair(30, 300)", "pair(-20, 0)",
            "size(10, 5)", "size(40, 15)", "size(20, 9)", "size(1, 10000)",
            "span(10, 0)", "span(4, 1)", "span(3, 2)", "span(50, 3)", "span(7, 0)",
            "load(0, 5, 4)", "load(0, 2, 5)", "load(1, 2, 10)", "load(1, 3, 1)", "load(2, 1, 7)",
            "load(2, 2, 8)", "load(3, 49, 1000)", "load(3, 25, 9)", "load(4, 6, 3)", "load(4, 2, 1000)",
            "hold(0, true)", "hold(1, true)");

    private Worlds() {
    }

    /** As many BANDS and RODS as may be, the RODS a step above one another. */
    private static String[] section(int s, int f, int step, int strength) {
        String[] rods = new String[6];
        for (int r = 0; r < 6; r++) {
            rods[r] = "rod(" + s + ", " + r * step + ", " + strength + ")";
        }
        return Sentences.lines("stone(" + s + ", " + f + ", 50)",
                Sentences.repeat(8, "band(" + s + ", 1, #0, 90)"), rods);
    }
}
