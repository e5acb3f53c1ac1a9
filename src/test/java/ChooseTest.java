import java.util.ArrayList;
import java.util.List;
import java.util.Random;

/** Promises 14 to 20: PAIRS and SIZES. */
public final class ChooseTest {
    private static final Due DUE = new Due("ChooseTest");

    /** RODS alone, at 0 and 100 about a MIDDLE of 50. */
    private static RodBeam frame() {
        RodBeam x = new RodBeam();
        x.rod(0, 0, 1);
        x.rod(0, 100, 2);
        return x;
    }

    private static void pairAndClear() {
        RodBeam x = new RodBeam();
        DUE.refused("pair(1000001, 0)", x, x.pair(1000001, 0), 2);
        DUE.refused("pair(-1000001, 0)", x, x.pair(-1000001, 0), 2);
        DUE.refused("pair(0, 1000001)", x, x.pair(0, 1000001), 2);
        DUE.refused("pair(0, -1000001)", x, x.pair(0, -1000001), 2);
        for (int i = 0; i < 7; i++) {
            DUE.same("pair " + i, x.pair(0, 0), i);
        }
        DUE.same("pair 7", x.pair(1000000, -1000000), 7);
        DUE.refused("a ninth pair", x, x.pair(0, 0), 3);
        DUE.refused("a ninth pair that can't be", x, x.pair(0, 1000001), 2);
        DUE.same("safe(0)", x.safe(0), 7);
        DUE.yes("clear()", x.clear());
        DUE.same("safe(0)", x.safe(0), -2);
        DUE.same("pair after clear()", x.pair(-1000000, 1000000), 0);
        DUE.same("safe(0)", x.safe(0), 0);
        DUE.yes("clear()", x.clear());
        DUE.yes("clear() again", x.clear());
    }

    private static void safe() {
        RodBeam x = frame();
        DUE.refused("safe(4)", x, x.safe(4), 1);
        DUE.refused("safe(-1)", x, x.safe(-1), 1);
        DUE.same("safe(0)", x.safe(0), -2);
        x.pair(0, 100);
        x.pair(3, 50);
        DUE.same("safe(0)", x.safe(0), -2);
        DUE.same("status()", x.status(), 0);
        x.pair(4, 0);
        x.pair(5, 0);
        DUE.same("safe(0)", x.safe(0), 2);
        DUE.same("safe(1) has the same pairs", x.safe(1), 0);
    }

    private static void size() {
        RodBeam x = new RodBeam();
        DUE.refused("size(0, 1)", x, x.size(0, 1), 2);
        DUE.refused("size(201, 1)", x, x.size(201, 1), 2);
        DUE.refused("size(1, 0)", x, x.size(1, 0), 2);
        DUE.refused("size(1, 10001)", x, x.size(1, 10001), 2);
        DUE.same("size(1, 10000)", x.size(1, 10000), 0);
        DUE.same("size(200, 1)", x.size(200, 1), 1);
        DUE.same("size(200, 1)", x.size(200, 1), 2);
        DUE.same("size(7, 7)", x.size(7, 7), 3);
        DUE.refused("a fifth size", x, x.size(1, 1), 3);
        DUE.refused("a fifth size that can't be", x, x.size(0, 1), 2);
    }

    private static void chosen(RodBeam x, int... want) {
        for (int r = 0; r < want.length; r++) {
            DUE.same("chosen(0, " + r + ")", x.chosen(0, r), want[r]);
        }
    }

    private static void bestTakesTheLeastPrice() {
        RodBeam x = frame();
        x.pair(0, 1000);
        DUE.refused("best(0) without sizes", x, x.best(0), 5);
        DUE.refused("chosen(0, 0)", x, x.chosen(0, 0), 5);
        DUE.refused("chosen(0, 2)", x, x.chosen(0, 2), 1);
        DUE.refused("chosen(0, -1)", x, x.chosen(0, -1), 1);
        DUE.refused("chosen(4, 0)", x, x.chosen(4, 0), 1);
        DUE.refused("take(0)", x, x.take(0), 5);
        DUE.refused("take(4)", x, x.take(4), 1);
        DUE.refused("best(4)", x, x.best(4), 1);
        DUE.same("strength(0, 0) after refusals", x.strength(0, 0), 1);
        x.size(9, 1);
        DUE.refused("best(0) with sizes too weak", x, x.best(0), 5);
        x.size(200, 20);
        DUE.same("best(0)", x.best(0), 40);
        chosen(x, 1, 1);
        x.size(10, 20);
        DUE.same("best(0), a later size at the same price", x.best(0), 40);
        chosen(x, 1, 1);
        x.size(10, 19);
        DUE.same("best(0)", x.best(0), 38);
        chosen(x, 3, 3);
        DUE.same("strength(0, 1) stays", x.strength(0, 1), 2);
        DUE.same("take(0)", x.take(0), 2);
        DUE.same("strength(0, 0)", x.strength(0, 0), 10);
        DUE.same("strength(0, 1)", x.strength(0, 1), 10);
        DUE.same("take(0) again", x.take(0), 0);
        x.change(0, 1, 11);
        DUE.same("take(0) after a change", x.take(0), 1);
        DUE.same("strength(0, 1)", x.strength(0, 1), 10);
    }

    /** Either of two RODS at one height does: none goes ahead of a SIZE, ROD by ROD. */
    private static void bestTakesTheFirstOfSeveral() {
        RodBeam x = new RodBeam();
        x.rod(0, 50, 0);
        x.rod(0, 50, 0);
        x.rod(0, 50, 0);
        x.size(5, 10);
        x.size(10, 20);
        x.pair(10, 0);
        DUE.same("best(0)", x.best(0), 20);
        chosen(x, -2, -2, 1);
        x.clear();
        x.pair(15, 0);
        DUE.same("best(0)", x.best(0), 30);
        chosen(x, -2, 0, 1);
        x.clear();
        x.pair(20, 0);
        chosen(x, -2, 1, 1);
        x.clear();
        x.pair(25, 0);
        chosen(x, 0, 1, 1);
        DUE.same("take(0)", x.take(0), 3);
        DUE.same("told(0, 5)", x.told(0, 5), 25);
        x.clear();
        DUE.same("best(0) without pairs", x.best(0), 0);
        chosen(x, -2, -2, -2);
        DUE.same("take(0)", x.take(0), 3);
        DUE.same("told(0, 5)", x.told(0, 5), 0);
    }

    /** The number of a SIZE decides, not its strength. */
    private static void bestGoesByNumbers() {
        RodBeam x = new RodBeam();
        x.rod(0, 50, 0);
        x.rod(0, 50, 0);
        x.size(10, 20);
        x.size(5, 10);
        x.size(15, 30);
        x.size(5, 10);
        x.pair(20, 0);
        DUE.same("best(0)", x.best(0), 40);
        chosen(x, 0, 0);
        x.clear();
        x.pair(15, 0);
        DUE.same("best(0)", x.best(0), 30);
        chosen(x, -2, 2);
        x.clear();
        x.pair(-16, 0);
        DUE.same("best(0)", x.best(0), 40);
        chosen(x, 0, 0);
    }

    /** BEST is asked anew after every call that can change it. */
    private static void bestFollowsEveryChange() {
        RodBeam x = frame();
        x.size(10, 3);
        DUE.same("best(0)", x.best(0), 0);
        x.pair(0, 500);
        DUE.same("best(0) after pair()", x.best(0), 6);
        x.band(0, 1, 0, 100);
        DUE.same("best(0) after band()", x.best(0), 3);
        chosen(x, 0, -2);
        x.rod(0, 50, 5);
        DUE.same("best(0) after rod()", x.best(0), 3);
        x.size(20, 2);
        DUE.same("best(0) after size()", x.best(0), 2);
        chosen(x, -2, -2, 1);
        x.stone(0, 10, 50);
        DUE.refused("best(0) after stone()", x, x.best(0), 5);
        x.clear();
        DUE.same("best(0) after clear()", x.best(0), 0);
    }

    /** A SECTION without RODS is SAFE as it stands, or never. */
    private static void bestWithoutRods() {
        RodBeam x = new RodBeam();
        x.band(0, 1, 0, 100);
        x.size(200, 1);
        x.pair(500, 0);
        DUE.same("best(0)", x.best(0), 0);
        DUE.same("take(0)", x.take(0), 0);
        x.pair(-1, 0);
        DUE.refused("best(0)", x, x.best(0), 5);
    }

    /** Every choice of random SECTIONS, told by safe() itself, against what best() found. */
    private static void bestIsTheFirstOfTheLeast() {
        Random random = new Random(11);
        for (int run = 0; run < 300; run++) {
            int rods = 1 + random.nextInt(run % 10 == 0 ? 6 : 4);
            int sizes = 1 + random.nextInt(4);
            int[] strength = new int[sizes];
            int[] price = new int[sizes];
            List<Call> bench = randomSection(random, rods);
            for (int i = 0; i < sizes; i++) {
                strength[i] = 1 + random.nextInt(200);
                price[i] = 1 + random.nextInt(run % 2 == 0 ? 4 : 300);
                bench.add(new Call("size(" + strength[i] + ", " + price[i] + ")"));
            }
            addPairs(bench, random);
            RodBeam x = made(bench);
            String got = x.best(0) + ":";
            for (int r = 0; r < rods; r++) {
                got += " " + x.chosen(0, r);
            }
            DUE.same("best and chosen after " + bench, got, everyChoice(bench, rods, strength, price));
        }
    }

    private static RodBeam made(List<Call> bench) {
        RodBeam x = new RodBeam();
        for (Call call : bench) {
            call.on(x);
        }
        return x;
    }

    private static List<Call> randomSection(Random random, int rods) {
        List<Call> bench = new ArrayList<>();
        bench.add(new Call("stone(0, " + (1 + random.nextInt(5)) + ", " + random.nextInt(101) + ")"));
        for (int i = 0; i < 3; i++) {
            int from = random.nextInt(100);
            int to = from + 1 + random.nextInt(100 - from);
            bench.add(new Call("band(0, " + (1 + random.nextInt(10)) + ", " + from + ", " + to + ")"));
        }
        for (int r = 0; r < rods; r++) {
            bench.add(new Call("rod(0, " + random.nextInt(101) + ", " + random.nextInt(100) + ")"));
        }
        return bench;
    }

    /** PAIRS that the SECTION as it is just bears. */
    private static void addPairs(List<Call> bench, Random random) {
        RodBeam x = made(bench);
        int least = x.told(0, 6);
        for (int i = 0; i < 5; i++) {
            int n = least + random.nextInt(1 - 2 * least);
            if (x.bend(0, n, random.nextBoolean()) > 0) {
                String[] parts = Due.out(x).split("/");
                long m = Long.parseLong(parts[0]) / Long.parseLong(parts[1]);
                bench.add(new Call("pair(" + n + ", " + m + ")"));
            }
        }
    }

    private static String everyChoice(List<Call> bench, int rods, int[] strength, int[] price) {
        int choices = 1;
        for (int r = 0; r < rods; r++) {
            choices *= strength.length + 1;
        }
        int least = Integer.MAX_VALUE;
        String found = "-1:" + " -1".repeat(rods);
        RodBeam x = null;
        for (int choice = 0; choice < choices; choice++) {
            // An object is good for 512 calls, and a choice takes at most 7.
            if (choice % 50 == 0) {
                x = made(bench);
            }
            int rest = choice;
            int sum = 0;
            String picks = "";
            for (int r = rods - 1; r >= 0; r--) {
                int option = rest % (strength.length + 1) - 1;
                rest /= strength.length + 1;
                sum += option < 0 ? 0 : price[option];
                picks = " " + (option < 0 ? -2 : option) + picks;
                x.change(0, r, option < 0 ? 0 : strength[option]);
            }
            if (sum < least && x.safe(0) == -2) {
                least = sum;
                found = sum + ":" + picks;
            }
        }
        return found;
    }

    public static void main(String[] args) {
        pairAndClear();
        safe();
        size();
        bestTakesTheLeastPrice();
        bestTakesTheFirstOfSeveral();
        bestGoesByNumbers();
        bestFollowsEveryChange();
        bestWithoutRods();
        bestIsTheFirstOfTheLeast();
        DUE.end();
    }
}
