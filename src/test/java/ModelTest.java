import java.util.Arrays;
import java.util.Random;

/** Long runs of calls, chosen by a fixed seed, on the class and on the model of the document side by side. */
public final class ModelTest {
    private static final int CALLS = 512;
    private static final int[] ODD = {-1, Integer.MIN_VALUE, Integer.MAX_VALUE, 6, 2, 3, 48, 61, 201, 20001, 2001, 16, 23};

    private final Random random;
    private final LightBursts x = new LightBursts();
    private final Model model = new Model();
    /** How crowded the run is: lesser numbers let more BURSTS come at one time. */
    private final int hops;
    private final int outs;

    private ModelTest(long seed) {
        random = new Random(seed);
        hops = 1 + random.nextInt(5);
        outs = 1 + random.nextInt(2);
    }

    public static void main(String[] args) {
        int runs = args.length > 0 ? Integer.parseInt(args[0]) : 400;
        int[] fates = new int[5];
        for (int run = 0; run < runs; run++) {
            new ModelTest(run).run(run, fates);
        }
        System.out.println("fates that were met: " + Arrays.toString(fates));
        for (int fate = 0; fate < fates.length; fate++) {
            Check.due("fate " + fate + " was met often", fates[fate] > 100, true);
        }
        Check.end();
    }

    private void run(int run, int[] fates) {
        setUp(run);
        // Four calls at most are for the set-up, five for the fates at the end.
        for (int call = 0; call < CALLS - 9; call++) {
            ask(run, random.nextInt(100));
        }
        for (int fate = 0; fate < 5; fate++) {
            int n = x.count(2 + fate);
            Check.due("run " + run + " count of fate " + fate, n, model.count(2 + fate));
            fates[fate] += n;
        }
    }

    private void setUp(int run) {
        both(run, "rule", random.nextInt(3), odd(6));
        for (int line = 0; line < 3; line++) {
            if (random.nextBoolean()) {
                both(run, "line", line, random.nextInt(12));
            }
        }
    }

    /** Mostly a number below a bound, now and then one that is likely to be wrong. */
    private int odd(int bound) {
        return random.nextInt(40) == 0 ? ODD[random.nextInt(ODD.length)] : random.nextInt(bound);
    }

    private int from() {
        return random.nextInt(30) == 0 ? 19990 + random.nextInt(13) : odd(Math.max(1, model.count(0) + 80));
    }

    private void ask(int run, int dice) {
        if (dice < 18) {
            both(run, "tell", odd(outs), odd(6), odd(3), 1 + odd(hops), 1 + odd(random.nextBoolean() ? 12 : 60));
        } else if (dice < 26) {
            both(run, "would", odd(outs), odd(6), odd(3), 1 + odd(hops), 1 + odd(60));
        } else if (dice < 31) {
            both(run, "pass", random.nextInt(20) == 0 ? 195 + random.nextInt(8) : odd(9));
        } else if (dice < 35) {
            int what = odd(6);
            both(run, "rule", what, what == 3 ? odd(62) : what < 3 ? odd(random.nextBoolean() ? 7 : 22) : odd(2));
        } else if (dice < 38) {
            both(run, "line", odd(3), random.nextInt(5) == 0 ? odd(63) : odd(12));
        } else if (dice < 43) {
            both(run, "back", odd(Math.max(1, model.count(1))));
        } else if (dice < 55) {
            both(run, "burst", odd(Math.max(1, model.count(1))), odd(11));
        } else if (dice < 62) {
            both(run, "booking", odd(outs), odd(6), odd(8) - 1, odd(3));
        } else if (dice < 66) {
            both(run, "held", odd(3), odd(6) - 1, odd(3));
        } else if (dice < 71) {
            both(run, "busy", odd(outs), odd(6), from(), 1 + odd(90));
        } else if (dice < 75) {
            both(run, "free", odd(outs), from(), 1 + odd(40));
        } else if (dice < 80) {
            both(run, "next", odd(outs), odd(6), from(), 1 + odd(40));
        } else if (dice < 86) {
            both(run, "hole", odd(outs), odd(6), odd(6) - 1, odd(2));
        } else if (dice < 90) {
            both(run, "tally", odd(3), odd(6));
        } else if (dice < 95) {
            both(run, "count", odd(23));
        } else if (dice < 97) {
            both(run, "image", odd(2));
        } else if (dice < 99) {
            both(run, "restore", odd(2));
        } else {
            both(run, "busy", odd(outs), odd(6), 20000, 1999 + odd(3));
        }
    }

    private void both(int run, String name, int... p) {
        Asked call = new Asked(name, p);
        Check.due("run " + run + " " + call, call.on(x), ofModel(name, p));
    }

    private int ofModel(String name, int[] p) {
        return switch (name) {
            case "rule" -> model.rule(p[0], p[1]);
            case "line" -> model.line(p[0], p[1]);
            case "pass" -> model.pass(p[0]);
            case "tell" -> model.tell(p[0], p[1], p[2], p[3], p[4]);
            case "would" -> model.would(p[0], p[1], p[2], p[3], p[4]);
            case "back" -> model.back(p[0]);
            case "burst" -> model.burst(p[0], p[1]);
            case "booking" -> model.booking(p[0], p[1], p[2], p[3]);
            case "held" -> model.held(p[0], p[1], p[2]);
            case "busy" -> model.busy(p[0], p[1], p[2], p[3]);
            case "free" -> model.free(p[0], p[1], p[2]);
            case "next" -> model.next(p[0], p[1], p[2], p[3]);
            case "hole" -> model.hole(p[0], p[1], p[2], p[3]);
            case "tally" -> model.tally(p[0], p[1]);
            case "count" -> model.count(p[0]);
            case "image" -> model.image(p[0]);
            default -> model.restore(p[0]);
        };
    }
}
