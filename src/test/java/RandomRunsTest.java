import java.util.Random;

/** Long mixed runs, each call answered by the class and by the slow model. */
public final class RandomRunsTest {
    private static final Due DUE = new Due("RandomRunsTest");

    private final Random random;
    private final RodBeam fast = new RodBeam();
    private final SlowRodBeam slow = new SlowRodBeam();
    private final StringBuilder history = new StringBuilder();
    private final boolean thin;
    private final boolean choosing;

    private RandomRunsTest(long seed) {
        random = new Random(seed);
        thin = seed % 3 == 0;
        choosing = seed % 4 == 0;
    }

    /** Mostly a number in the range, now and then one around it or far off. */
    private int number(int least, int most) {
        int kind = random.nextInt(60);
        if (kind == 0) {
            return least - 1;
        }
        if (kind == 1) {
            return most + 1;
        }
        if (kind == 2) {
            return random.nextInt();
        }
        if (kind < 6) {
            return random.nextBoolean() ? least : most;
        }
        return least + random.nextInt(most - least + 1);
    }

    private int section() {
        return random.nextInt(50) == 0 ? number(0, 3) : random.nextInt(thin ? 2 : 4);
    }

    private int push(int section) {
        int least = fast.told(section, 6);
        int most = fast.status() == 0 ? fast.told(section, 5) : 0;
        slow.told(section, 6);
        if (slow.status() == 0) {
            slow.told(section, 5);
        }
        if (random.nextInt(3) == 0) {
            return number(least, -least);
        }
        return number(least, Math.max(least, Math.min(1000000, most)));
    }

    /** A bend close to HIGH or LOW, so that BORNE hangs on a hair. */
    private int bending(int section, int n) {
        boolean high = random.nextBoolean();
        int length = fast.bend(section, n, high);
        slow.bend(section, n, high);
        if (length < 0) {
            return number(-1000000, 1000000);
        }
        String[] parts = Due.out(fast).split("/");
        long whole = Math.floorDiv(Long.parseLong(parts[0]), Long.parseLong(parts[1]));
        return (int) Math.max(-1000001, Math.min(1000001, whole - 1 + random.nextInt(4)));
    }

    private void build() {
        int s = section();
        switch (random.nextInt(10)) {
            case 0: {
                int f = number(1, thin ? 3 : 50);
                int z = number(0, 100);
                check("stone(" + s + ", " + f + ", " + z + ")", fast.stone(s, f, z) ? 1 : 0, slow.stone(s, f, z));
                break;
            }
            case 1: case 2: case 3: case 4: {
                int w = number(1, thin ? 3 : 100);
                int a = number(0, 99);
                int b = number(Math.max(0, Math.min(99, a)) + 1, 100);
                check("band(" + s + ", " + w + ", " + a + ", " + b + ")", fast.band(s, w, a, b), slow.band(s, w, a, b));
                break;
            }
            case 5: case 6: case 7: {
                if (choosing && fast.told(s, 3) >= 3) {
                    break;
                }
                int h = number(0, 100);
                int q = number(0, 200);
                check("rod(" + s + ", " + h + ", " + q + ")", fast.rod(s, h, q), slow.rod(s, h, q));
                break;
            }
            default: {
                int r = number(0, 5);
                int q = number(0, 200);
                check("change(" + s + ", " + r + ", " + q + ")", fast.change(s, r, q) ? 1 : 0, slow.change(s, r, q));
                break;
            }
        }
    }

    private void ask() {
        int s = section();
        switch (random.nextInt(8)) {
            case 0: {
                int what = number(0, 6);
                check("told(" + s + ", " + what + ")", fast.told(s, what), slow.told(s, what));
                break;
            }
            case 1: {
                int r = number(0, 5);
                check("strength(" + s + ", " + r + ")", fast.strength(s, r), slow.strength(s, r));
                break;
            }
            case 2: {
                int h = number(0, 99);
                check("width(" + s + ", " + h + ")", fast.width(s, h), slow.width(s, h));
                break;
            }
            case 3: case 4: {
                int n = push(s);
                boolean high = random.nextBoolean();
                check("bend(" + s + ", " + n + ", " + high + ")", fast.bend(s, n, high), slow.bend(s, n, high));
                break;
            }
            case 5: case 6: {
                int n = push(s);
                boolean top = random.nextBoolean();
                check("cut(" + s + ", " + n + ", " + top + ")", fast.cut(s, n, top), slow.cut(s, n, top));
                break;
            }
            default: {
                int n = push(s);
                int m = bending(s, n);
                check("borne(" + s + ", " + n + ", " + m + ")", fast.borne(s, n, m), slow.borne(s, n, m));
                break;
            }
        }
    }

    private void choose() {
        int s = section();
        switch (random.nextInt(choosing ? 9 : 4)) {
            case 0: {
                int n = push(s);
                int m = bending(s, n);
                check("pair(" + n + ", " + m + ")", fast.pair(n, m), slow.pair(n, m));
                break;
            }
            case 1: {
                if (random.nextInt(4) == 0) {
                    check("clear()", fast.clear() ? 1 : 0, slow.clear());
                }
                break;
            }
            case 2: case 3: {
                check("safe(" + s + ")", fast.safe(s), slow.safe(s));
                break;
            }
            case 4: case 5: {
                int q = number(1, 200);
                int p = number(1, random.nextBoolean() ? 10000 : 3);
                check("size(" + q + ", " + p + ")", fast.size(q, p), slow.size(q, p));
                break;
            }
            case 6: {
                check("best(" + s + ")", fast.best(s), slow.best(s));
                break;
            }
            case 7: {
                int r = number(0, 2);
                check("chosen(" + s + ", " + r + ")", fast.chosen(s, r), slow.chosen(s, r));
                break;
            }
            default: {
                check("take(" + s + ")", fast.take(s), slow.take(s));
                break;
            }
        }
    }

    private void bridge() {
        int s = section();
        switch (random.nextInt(12)) {
            case 0: case 1: {
                int length = number(2, 50);
                check("span(" + length + ", " + s + ")", fast.span(length, s), slow.span(length, s));
                break;
            }
            case 2: {
                if (random.nextInt(5) == 0) {
                    check("away()", fast.away() ? 1 : 0, slow.away());
                }
                break;
            }
            case 3: {
                int end = number(0, 1);
                boolean is = random.nextBoolean();
                check("hold(" + end + ", " + is + ")", fast.hold(end, is) ? 1 : 0, slow.hold(end, is));
                break;
            }
            case 4: case 5: case 6: case 7: {
                int span = number(0, 4);
                int place = number(1, 20);
                int weight = number(1, 1000);
                check("load(" + span + ", " + place + ", " + weight + ")",
                        fast.load(span, place, weight), slow.load(span, place, weight));
                break;
            }
            case 8: case 9: {
                int span = number(0, 4);
                int load = number(0, 1);
                check("times(" + span + ", " + load + ")", fast.times(span, load), slow.times(span, load));
                break;
            }
            case 10: {
                check("factor()", fast.factor(), slow.factor());
                break;
            }
            default: {
                check("weakest()", fast.weakest(), slow.weakest());
                break;
            }
        }
    }

    private void check(String call, int got, int want) {
        history.append(call).append(' ');
        String whole = call + " | " + fast.status() + " | " + Due.out(fast);
        String due = call + " | " + slow.status() + " | " + slow.out();
        if (got != want || !whole.equals(due)) {
            DUE.tell("after " + history);
            DUE.same(call, got, want);
            DUE.same("the state after it", whole, due);
        }
    }

    private void run(int calls) {
        for (int i = 0; i < calls && DUE.wrong() == 0; i++) {
            int kind = random.nextInt(10);
            if (kind < 3) {
                build();
            } else if (kind < 5) {
                ask();
            } else if (kind < 7) {
                choose();
            } else {
                bridge();
            }
        }
    }

    public static void main(String[] args) {
        int runs = args.length > 0 ? Integer.parseInt(args[0]) : 60;
        for (int seed = 1; seed <= runs && DUE.wrong() == 0; seed++) {
            new RandomRunsTest(seed).run(250);
        }
        DUE.end();
    }
}
