/** Promises 4 to 13: SECTIONS. */
public final class SectionTest {
    private static final Due DUE = new Due("SectionTest");

    private static RodBeam block() {
        RodBeam x = new RodBeam();
        x.stone(0, 2, 5);
        x.band(0, 3, 0, 10);
        return x;
    }

    private static RodBeam blockWithRods() {
        RodBeam x = block();
        x.rod(0, 1, 12);
        x.rod(0, 9, 6);
        return x;
    }

    private static void stone() {
        RodBeam x = blockWithRods();
        DUE.refused("stone(4, 1, 0)", x, x.stone(4, 1, 0), 1);
        DUE.refused("stone(-1, 0, 0)", x, x.stone(-1, 0, 0), 1);
        DUE.refused("stone(0, 0, 0)", x, x.stone(0, 0, 0), 2);
        DUE.refused("stone(0, 51, 0)", x, x.stone(0, 51, 0), 2);
        DUE.refused("stone(0, 1, -1)", x, x.stone(0, 1, -1), 2);
        DUE.refused("stone(0, 1, 101)", x, x.stone(0, 1, 101), 2);
        DUE.same("told(0, 2) after refusals", x.told(0, 2), 1);
        DUE.same("told(0, 3) after refusals", x.told(0, 3), 2);
        DUE.yes("stone(0, 50, 100)", x.stone(0, 50, 100));
        int[] want = {50, 100, 0, 0, 0, 0, 0};
        for (int what = 0; what < want.length; what++) {
            DUE.same("told(0, " + what + ")", x.told(0, what), want[what]);
        }
        DUE.refused("strength(0, 0)", x, x.strength(0, 0), 1);
        DUE.same("width(0, 5)", x.width(0, 5), 0);
        DUE.same("band(0, 1, 0, 1)", x.band(0, 1, 0, 1), 0);
        DUE.same("rod(0, 1, 1)", x.rod(0, 1, 1), 0);
        DUE.yes("stone(3, 1, 0)", x.stone(3, 1, 0));
        DUE.same("told(3, 0)", x.told(3, 0), 1);
        DUE.same("told(0, 0)", x.told(0, 0), 50);
    }

    private static void band() {
        RodBeam x = new RodBeam();
        DUE.refused("band(4, 1, 0, 1)", x, x.band(4, 1, 0, 1), 1);
        DUE.refused("band(-1, 0, 0, 0)", x, x.band(-1, 0, 0, 0), 1);
        DUE.refused("band(0, 0, 0, 1)", x, x.band(0, 0, 0, 1), 2);
        DUE.refused("band(0, 101, 0, 1)", x, x.band(0, 101, 0, 1), 2);
        DUE.refused("band(0, 1, -1, 1)", x, x.band(0, 1, -1, 1), 2);
        DUE.refused("band(0, 1, 99, 101)", x, x.band(0, 1, 99, 101), 2);
        DUE.refused("band(0, 1, 5, 5)", x, x.band(0, 1, 5, 5), 2);
        DUE.refused("band(0, 1, 6, 5)", x, x.band(0, 1, 6, 5), 2);
        DUE.same("told(0, 2)", x.told(0, 2), 0);
        for (int i = 0; i < 8; i++) {
            DUE.same("band " + i, x.band(0, 100, 0, 100), i);
            DUE.same("status()", x.status(), 0);
        }
        DUE.refused("a ninth band", x, x.band(0, 1, 0, 1), 3);
        DUE.refused("a ninth band that can't be", x, x.band(0, 0, 0, 1), 2);
        DUE.same("told(0, 4)", x.told(0, 4), 80000);
        DUE.same("told(0, 5)", x.told(0, 5), 800000);
        DUE.same("told(1, 4)", x.told(1, 4), 0);
    }

    private static void rodAndChange() {
        RodBeam x = new RodBeam();
        DUE.refused("rod(4, 0, 0)", x, x.rod(4, 0, 0), 1);
        DUE.refused("rod(0, -1, 0)", x, x.rod(0, -1, 0), 2);
        DUE.refused("rod(0, 101, 0)", x, x.rod(0, 101, 0), 2);
        DUE.refused("rod(0, 0, -1)", x, x.rod(0, 0, -1), 2);
        DUE.refused("rod(0, 0, 201)", x, x.rod(0, 0, 201), 2);
        DUE.refused("change(0, 0, 1)", x, x.change(0, 0, 1), 1);
        int[] heights = {0, 100, 50, 50, 3, 0};
        for (int i = 0; i < 6; i++) {
            DUE.same("rod " + i, x.rod(0, heights[i], 40 * i), i);
            DUE.same("strength(0, " + i + ")", x.strength(0, i), 40 * i);
        }
        DUE.refused("a seventh rod", x, x.rod(0, 0, 0), 3);
        DUE.refused("a seventh rod that can't be", x, x.rod(0, 0, 201), 2);
        DUE.same("told(0, 3)", x.told(0, 3), 6);
        DUE.same("told(0, 5)", x.told(0, 5), 600);
        DUE.same("told(0, 6)", x.told(0, 6), -600);
        DUE.yes("change(0, 5, 0)", x.change(0, 5, 0));
        DUE.same("strength(0, 5)", x.strength(0, 5), 0);
        DUE.same("told(0, 6)", x.told(0, 6), -400);
        DUE.yes("change(0, 0, 200)", x.change(0, 0, 200));
        DUE.yes("change(0, 0, 200) again", x.change(0, 0, 200));
        DUE.refused("change(0, 0, 201)", x, x.change(0, 0, 201), 2);
        DUE.refused("change(0, 0, -1)", x, x.change(0, 0, -1), 2);
        DUE.refused("change(0, 6, 201)", x, x.change(0, 6, 201), 1);
        DUE.refused("change(0, -1, 0)", x, x.change(0, -1, 0), 1);
        DUE.refused("change(4, 0, 0)", x, x.change(4, 0, 0), 1);
        DUE.same("strength(0, 0)", x.strength(0, 0), 200);
        DUE.refused("strength(0, 6)", x, x.strength(0, 6), 1);
        DUE.refused("strength(0, -1)", x, x.strength(0, -1), 1);
        DUE.refused("strength(-1, 0)", x, x.strength(-1, 0), 1);
        DUE.refused("strength(1, 0)", x, x.strength(1, 0), 1);
    }

    private static void told() {
        RodBeam x = blockWithRods();
        int[] want = {2, 5, 1, 2, 30, 78, -18};
        for (int what = 0; what < want.length; what++) {
            DUE.same("told(0, " + what + ")", x.told(0, what), want[what]);
        }
        DUE.refused("told(0, -1)", x, x.told(0, -1), 2);
        DUE.refused("told(0, 7)", x, x.told(0, 7), 2);
        DUE.refused("told(4, 7)", x, x.told(4, 7), 1);
        x.stone(0, 1, 0);
        x.rod(0, 0, 1);
        DUE.same("told(0, 6)", x.told(0, 6), -1);
        DUE.same("status() tells NONE from -1", x.status(), 0);
    }

    private static void width() {
        RodBeam x = new RodBeam();
        x.band(0, 3, 0, 10);
        x.band(0, 5, 9, 100);
        int[] heights = {0, 8, 9, 10, 99};
        int[] want = {3, 3, 8, 5, 5};
        for (int i = 0; i < want.length; i++) {
            DUE.same("width(0, " + heights[i] + ")", x.width(0, heights[i]), want[i]);
        }
        DUE.refused("width(0, -1)", x, x.width(0, -1), 2);
        DUE.refused("width(0, 100)", x, x.width(0, 100), 2);
        DUE.refused("width(4, 100)", x, x.width(4, 100), 1);
    }

    private static void bend() {
        RodBeam x = blockWithRods();
        DUE.told("bend(0, 0, true)", x, x.bend(0, 0, true), "99/1");
        DUE.told("bend(0, 0, false)", x, x.bend(0, 0, false), "-51/1");
        DUE.told("bend(0, -18, true)", x, x.bend(0, -18, true), "24/1");
        DUE.told("bend(0, -18, false)", x, x.bend(0, -18, false), "24/1");
        DUE.told("bend(0, 78, true)", x, x.bend(0, 78, true), "-24/1");
        DUE.told("bend(0, 78, false)", x, x.bend(0, 78, false), "-24/1");
        x.rod(0, 0, 1);
        DUE.told("bend(0, 19, true)", x, x.bend(0, 19, true), "452/3");
        DUE.refused("bend(0, 80, true)", x, x.bend(0, 80, true), 4);
        DUE.refused("bend(0, -20, false)", x, x.bend(0, -20, false), 4);
        DUE.refused("bend(0, -1000000, true)", x, x.bend(0, -1000000, true), 4);
        DUE.refused("bend(0, 1000000, true)", x, x.bend(0, 1000000, true), 4);
        DUE.refused("bend(0, -1000001, true)", x, x.bend(0, -1000001, true), 2);
        DUE.refused("bend(0, 1000001, true)", x, x.bend(0, 1000001, true), 2);
        DUE.refused("bend(0, least, true)", x, x.bend(0, Integer.MIN_VALUE, true), 2);
        DUE.refused("bend(4, 1000001, true)", x, x.bend(4, 1000001, true), 1);
        DUE.refused("bend(-1, 0, true)", x, x.bend(-1, 0, true), 1);
    }

    /** All widths 100 and f 50: 4,000,000 pushes, of which a call can ask 1,000,000. */
    private static void bendOfTheGreatestSection() {
        RodBeam x = new RodBeam();
        x.stone(0, 50, 0);
        for (int i = 0; i < 8; i++) {
            x.band(0, 100, 0, 100);
        }
        for (int i = 0; i < 6; i++) {
            x.rod(0, 0, 200);
        }
        DUE.same("told(0, 5)", x.told(0, 5), 4001200);
        DUE.told("bend(0, 999999, true)", x, x.bend(0, 999999, true), "7007192562399/80000");
        DUE.told("cut(0, 999999, true)", x, x.cut(0, 999999, true), "2998801/40000");
        DUE.told("bend(0, 999999, false)", x, x.bend(0, 999999, false), lowOfGreatest());
    }

    /** The RODS at the foot push 1,200; the rest is a block from the foot on, its middle at half. */
    private static String lowOfGreatest() {
        long rest = 999999 - 1200;
        return rest * rest + "/80000";
    }

    private static void cut() {
        RodBeam x = block();
        DUE.told("cut(0, 0, true)", x, x.cut(0, 0, true), "100/1");
        DUE.told("cut(0, 0, false)", x, x.cut(0, 0, false), "0/1");
        DUE.told("cut(0, 25, true)", x, x.cut(0, 25, true), "35/6");
        DUE.told("cut(0, 25, false)", x, x.cut(0, 25, false), "25/6");
        DUE.told("cut(0, 60, true)", x, x.cut(0, 60, true), "0/1");
        DUE.told("cut(0, 60, false)", x, x.cut(0, 60, false), "10/1");
        DUE.refused("cut(0, 61, true)", x, x.cut(0, 61, true), 4);
        DUE.refused("cut(0, -1, true)", x, x.cut(0, -1, true), 4);
        DUE.refused("cut(0, 1000001, true)", x, x.cut(0, 1000001, true), 2);
        DUE.refused("cut(0, -1000001, true)", x, x.cut(0, -1000001, true), 2);
        DUE.refused("cut(4, 1000001, true)", x, x.cut(4, 1000001, true), 1);
    }

    /** Between two blocks lies nothing: of several heights the greatest for top, least for foot. */
    private static void cutInAGap() {
        RodBeam x = new RodBeam();
        x.stone(0, 1, 0);
        x.band(0, 2, 20, 30);
        x.band(0, 2, 60, 70);
        DUE.told("cut(0, 20, true)", x, x.cut(0, 20, true), "60/1");
        DUE.told("cut(0, 20, false)", x, x.cut(0, 20, false), "30/1");
        DUE.told("cut(0, 40, true)", x, x.cut(0, 40, true), "20/1");
        DUE.told("cut(0, 40, false)", x, x.cut(0, 40, false), "70/1");
        DUE.told("cut(0, 0, true)", x, x.cut(0, 0, true), "100/1");
        DUE.told("cut(0, 21, true)", x, x.cut(0, 21, true), "59/2");
        x.rod(0, 40, 5);
        DUE.told("cut(0, 15, true)", x, x.cut(0, 15, true), "60/1");
        DUE.told("cut(0, 16, true)", x, x.cut(0, 16, true), "40/1");
        DUE.told("cut(0, 25, true)", x, x.cut(0, 25, true), "40/1");
        DUE.told("cut(0, 26, true)", x, x.cut(0, 26, true), "59/2");
        DUE.told("cut(0, 15, false)", x, x.cut(0, 15, false), "30/1");
        DUE.told("cut(0, 16, false)", x, x.cut(0, 16, false), "40/1");
        DUE.told("cut(0, -5, true)", x, x.cut(0, -5, true), "100/1");
        DUE.told("cut(0, -5, false)", x, x.cut(0, -5, false), "0/1");
    }

    /** RODS at the very ends have all pushes between. */
    private static void cutAtTheEnds() {
        RodBeam x = new RodBeam();
        x.rod(0, 100, 10);
        x.rod(0, 100, 5);
        x.rod(0, 0, 7);
        DUE.told("cut(0, -22, true)", x, x.cut(0, -22, true), "100/1");
        DUE.told("cut(0, 8, true)", x, x.cut(0, 8, true), "100/1");
        DUE.told("cut(0, 9, true)", x, x.cut(0, 9, true), "0/1");
        DUE.told("cut(0, 22, true)", x, x.cut(0, 22, true), "0/1");
        DUE.told("cut(0, -8, false)", x, x.cut(0, -8, false), "0/1");
        DUE.told("cut(0, -7, false)", x, x.cut(0, -7, false), "100/1");
        DUE.refused("cut(0, 23, true)", x, x.cut(0, 23, true), 4);
        DUE.told("bend(0, 0, true)", x, x.bend(0, 0, true), "700/1");
    }

    private static void borne() {
        RodBeam x = block();
        DUE.same("borne(0, 25, 72)", x.borne(0, 25, 72), 1);
        DUE.same("borne(0, 25, 73)", x.borne(0, 25, 73), 0);
        DUE.same("borne(0, 25, -72)", x.borne(0, 25, -72), 1);
        DUE.same("borne(0, 25, -73)", x.borne(0, 25, -73), 0);
        DUE.same("borne(0, 60, 0)", x.borne(0, 60, 0), 1);
        DUE.same("borne(0, 60, 1)", x.borne(0, 60, 1), 0);
        DUE.same("borne(0, 60, -1)", x.borne(0, 60, -1), 0);
        DUE.same("borne(0, 61, 0)", x.borne(0, 61, 0), 0);
        DUE.same("status()", x.status(), 0);
        DUE.same("borne(0, -1, 0)", x.borne(0, -1, 0), 0);
        DUE.same("borne(0, 1000000, -1000000)", x.borne(0, 1000000, -1000000), 0);
        DUE.refused("borne(0, 1000001, 0)", x, x.borne(0, 1000001, 0), 2);
        DUE.refused("borne(0, -1000001, 0)", x, x.borne(0, -1000001, 0), 2);
        DUE.refused("borne(0, 0, 1000001)", x, x.borne(0, 0, 1000001), 2);
        DUE.refused("borne(0, 0, -1000001)", x, x.borne(0, 0, -1000001), 2);
        DUE.refused("borne(4, 1000001, 0)", x, x.borne(4, 1000001, 0), 1);
    }

    public static void main(String[] args) {
        stone();
        band();
        rodAndChange();
        told();
        width();
        bend();
        bendOfTheGreatestSection();
        cut();
        cutInAGap();
        cutAtTheEnds();
        borne();
        DUE.end();
    }
}
