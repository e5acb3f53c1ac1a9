import java.util.ArrayList;
import java.util.List;
import java.util.Random;

/** Long mixed runs, each call answered by the class and by the slow model. */
public final class RandomRunsTest {
    private static final Due DUE = new Due("RandomRunsTest");
    private static final int MOST_CALLS = 512;
    private static final int MOST_HISTORY = 300;

    private final Random random;
    private final SlowRodBeam slow = new SlowRodBeam();
    private final List<Call> history = new ArrayList<>();
    private final boolean thin;
    private final boolean choosing;
    private RodBeam fast = new RodBeam();
    private int used = 0;

    private RandomRunsTest(long seed) {
        random = new Random(seed);
        thin = seed % 3 == 0;
        choosing = seed % 4 == 0;
    }

    /** Mostly a number in the range, now and then one around it or far off. */
    private int number(int least, int most) {
        int kind = random.nextInt(60);
        if (kind == 0) {
            return least - 1;
        }
        if (kind == 1) {
            return most + 1;
        }
        if (kind == 2) {
            return random.nextInt();
        }
        if (kind < 6) {
            return random.nextBoolean() ? least : most;
        }
        return least + random.nextInt(most - least + 1);
    }

    private int section() {
        return random.nextInt(50) == 0 ? number(0, 3) : random.nextInt(thin ? 2 : 4);
    }

    private int push(int section) {
        int least = check("told", section, 6);
        int most = slow.status() == 0 ? check("told", section, 5) : 0;
        if (random.nextInt(3) == 0) {
            return number(least, -least);
        }
        return number(least, Math.max(least, Math.min(1000000, most)));
    }

    /** A bend close to HIGH or LOW, so that BORNE hangs on a hair. */
    private int bending(int section, int n) {
        if (check("bend", section, n, random.nextBoolean()) < 0) {
            return number(-1000000, 1000000);
        }
        String[] parts = slow.out().split("/");
        long whole = Math.floorDiv(Long.parseLong(parts[0]), Long.parseLong(parts[1]));
        return (int) Math.max(-1000001, Math.min(1000001, whole - 1 + random.nextInt(4)));
    }

    private void build() {
        int s = section();
        int kind = random.nextInt(10);
        if (kind == 0) {
            check("stone", s, number(1, thin ? 3 : 50), number(0, 100));
        } else if (kind < 5) {
            int from = number(0, 99);
            check("band", s, number(1, thin ? 3 : 100), from, number(Math.max(0, Math.min(99, from)) + 1, 100));
        } else if (kind < 8) {
            // The slow model tries every choice: with many RODS that takes too long.
            if (!choosing || check("told", s, 3) < 3) {
                check("rod", s, number(0, 100), number(0, 200));
            }
        } else {
            check("change", s, number(0, 5), number(0, 200));
        }
    }

    private void ask() {
        int s = section();
        switch (random.nextInt(8)) {
            case 0 -> check("told", s, number(0, 6));
            case 1 -> check("strength", s, number(0, 5));
            case 2 -> check("width", s, number(0, 99));
            case 3, 4 -> check("bend", s, push(s), random.nextBoolean());
            case 5, 6 -> check("cut", s, push(s), random.nextBoolean());
            default -> {
                int n = push(s);
                check("borne", s, n, bending(s, n));
            }
        }
    }

    private void choose() {
        int s = section();
        switch (random.nextInt(choosing ? 9 : 4)) {
            case 0 -> {
                int n = push(s);
                check("pair", n, bending(s, n));
            }
            case 1 -> {
                if (random.nextInt(4) == 0) {
                    check("clear");
                }
            }
            case 2, 3 -> check("safe", s);
            case 4, 5 -> check("size", number(1, 200), number(1, random.nextBoolean() ? 10000 : 3));
            case 6 -> check("best", s);
            case 7 -> check("chosen", s, number(0, 2));
            default -> check("take", s);
        }
    }

    private void bridge() {
        switch (random.nextInt(12)) {
            case 0, 1 -> check("span", number(2, 50), section());
            case 2 -> {
                if (random.nextInt(5) == 0) {
                    check("away");
                }
            }
            case 3 -> check("hold", number(0, 1), random.nextBoolean());
            case 4, 5, 6, 7 -> check("load", number(0, 4), number(1, 20), number(1, 1000));
            case 8, 9 -> check("times", number(0, 4), number(0, 1));
            case 10 -> check("factor");
            default -> check("weakest");
        }
    }

    /** The answer that is due. */
    private int check(String name, Object... arguments) {
        StringBuilder text = new StringBuilder(name).append('(');
        for (Object argument : arguments) {
            text.append(text.charAt(text.length() - 1) == '(' ? "" : ", ").append(argument);
        }
        Call call = new Call(text.append(')').toString());
        int want = call.on(slow);
        renewInTime();
        int got = call.on(fast);
        String told = got + ", STATUS " + fast.status() + ", OUT " + Due.out(fast);
        String due = want + ", STATUS " + slow.status() + ", OUT " + slow.out();
        used += callsOfACheck();
        if (!told.equals(due)) {
            DUE.same("after " + history + ": " + call, told, due);
        }
        history.add(call);
        return want;
    }

    private int callsOfACheck() {
        return 3 + 2 * slow.out().length();
    }

    /** An object is good for 512 calls only, so now and then a new one is brought as far. */
    private void renewInTime() {
        if (used + callsOfACheck() > MOST_CALLS) {
            fast = new RodBeam();
            for (Call call : history) {
                call.on(fast);
            }
            used = history.size();
        }
    }

    private void run() {
        while (history.size() < MOST_HISTORY && DUE.wrong() == 0) {
            int kind = random.nextInt(10);
            if (kind < 3) {
                build();
            } else if (kind < 5) {
                ask();
            } else if (kind < 7) {
                choose();
            } else {
                bridge();
            }
        }
    }

    public static void main(String[] args) {
        int runs = args.length > 0 ? Integer.parseInt(args[0]) : 60;
        for (int seed = 1; seed <= runs && DUE.wrong() == 0; seed++) {
            new RandomRunsTest(seed).run();
        }
        DUE.end();
    }
}
