import java.util.Arrays;
import java.util.Random;

/** Long runs of calls, chosen by a fixed seed, on the class and on the model of the document side by side. */
public final class ModelTest {
    private static final int CALLS = 512;
    private static final int[] ODD = {-1, Integer.MIN_VALUE, Integer.MAX_VALUE, 6, 2, 3, 48, 61, 201, 20001, 2001, 16, 23};

    private final Random random;
    private final LightBursts x = new LightBursts();
    private final Model model = new Model();
    /** How crowded the run is: lesser numbers let more BURSTS come at one time. */
    private final int hops;
    private final int outs;

    private ModelTest(long seed) {
        random = new Random(seed);
        hops = 1 + random.nextInt(5);
        outs = 1 + random.nextInt(2);
    }

    public static void main(String[] args) {
        int runs = args.length > 0 ? Integer.parseInt(args[0]) : 400;
        int[] fates = new int[5];
        for (int run = 0; run < runs; run++) {
            new ModelTest(run).run(run, fates);
        }
        System.out.println("fates that were met: " + Arrays.toString(fates));
        for (int fate = 0; fate < fates.length; fate++) {
            Check.due("fate " + fate + " was met often", fates[fate] > 100, true);
        }
        Check.end();
    }

    private void run(int run, int[] fates) {
        setUp(run);
        // Four calls at most are for the set-up, five for the fates at the end.
        for (int call = 0; call < CALLS - 9; call++) {
            ask(run, random.nextInt(100));
        }
        for (int fate = 0; fate < 5; fate++) {
            int n = x.count(2 + fate);
            Check.due("run " + run + " count of fate " + fate, n, model.count(2 + fate));
            fates[fate] += n;
        }
    }

    private void setUp(int run) {
        both(run, 0, random.nextInt(3), odd(6));
        for (int line = 0; line < 3; line++) {
            if (random.nextBoolean()) {
                both(run, 1, line, random.nextInt(12));
            }
        }
    }

    /** Mostly a number below a bound, now and then one that is likely to be wrong. */
    private int odd(int bound) {
        return random.nextInt(40) == 0 ? ODD[random.nextInt(ODD.length)] : random.nextInt(bound);
    }

    private int from() {
        return random.nextInt(30) == 0 ? 19990 + random.nextInt(13) : odd(Math.max(1, model.count(0) + 80));
    }

    private void ask(int run, int dice) {
        if (dice < 18) {
            both(run, 3, odd(outs), odd(6), odd(3), 1 + odd(hops), 1 + odd(random.nextBoolean() ? 12 : 60));
        } else if (dice < 26) {
            both(run, 4, odd(outs), odd(6), odd(3), 1 + odd(hops), 1 + odd(60));
        } else if (dice < 31) {
            both(run, 2, random.nextInt(20) == 0 ? 195 + random.nextInt(8) : odd(9));
        } else if (dice < 35) {
            int what = odd(6);
            both(run, 0, what, what == 3 ? odd(62) : what < 3 ? odd(7) : odd(2));
        } else if (dice < 38) {
            both(run, 1, odd(3), random.nextInt(5) == 0 ? odd(63) : odd(12));
        } else if (dice < 43) {
            both(run, 5, odd(Math.max(1, model.count(1))));
        } else if (dice < 55) {
            both(run, 6, odd(Math.max(1, model.count(1))), odd(11));
        } else if (dice < 62) {
            both(run, 7, odd(outs), odd(6), odd(8) - 1, odd(3));
        } else if (dice < 66) {
            both(run, 8, odd(3), odd(6) - 1, odd(3));
        } else if (dice < 71) {
            both(run, 9, odd(outs), odd(6), from(), 1 + odd(90));
        } else if (dice < 75) {
            both(run, 10, odd(outs), from(), 1 + odd(40));
        } else if (dice < 80) {
            both(run, 11, odd(outs), odd(6), from(), 1 + odd(40));
        } else if (dice < 86) {
            both(run, 12, odd(outs), odd(6), odd(6) - 1, odd(2));
        } else if (dice < 90) {
            both(run, 13, odd(3), odd(6));
        } else if (dice < 95) {
            both(run, 14, odd(23));
        } else if (dice < 97) {
            both(run, 15, odd(2));
        } else if (dice < 99) {
            both(run, 16, odd(2));
        } else {
            both(run, 9, odd(outs), odd(6), 20000, 1999 + odd(3));
        }
    }

    private void both(int run, int call, int... a) {
        int[] p = Arrays.copyOf(a, 5);
        Check.due("run " + run + " call " + call + Arrays.toString(a), ofClass(call, p), ofModel(call, p));
    }

    private int ofClass(int call, int[] p) {
        return switch (call) {
            case 0 -> x.rule(p[0], p[1]);
            case 1 -> x.line(p[0], p[1]);
            case 2 -> x.pass(p[0]);
            case 3 -> x.tell(p[0], p[1], p[2], p[3], p[4]);
            case 4 -> x.would(p[0], p[1], p[2], p[3], p[4]);
            case 5 -> x.back(p[0]);
            case 6 -> x.burst(p[0], p[1]);
            case 7 -> x.booking(p[0], p[1], p[2], p[3]);
            case 8 -> x.held(p[0], p[1], p[2]);
            case 9 -> x.busy(p[0], p[1], p[2], p[3]);
            case 10 -> x.free(p[0], p[1], p[2]);
            case 11 -> x.next(p[0], p[1], p[2], p[3]);
            case 12 -> x.hole(p[0], p[1], p[2], p[3]);
            case 13 -> x.tally(p[0], p[1]);
            case 14 -> x.count(p[0]);
            case 15 -> x.image(p[0]);
            default -> x.restore(p[0]);
        };
    }

    private int ofModel(int call, int[] p) {
        return switch (call) {
            case 0 -> model.rule(p[0], p[1]);
            case 1 -> model.line(p[0], p[1]);
            case 2 -> model.pass(p[0]);
            case 3 -> model.tell(p[0], p[1], p[2], p[3], p[4]);
            case 4 -> model.would(p[0], p[1], p[2], p[3], p[4]);
            case 5 -> model.back(p[0]);
            case 6 -> model.burst(p[0], p[1]);
            case 7 -> model.booking(p[0], p[1], p[2], p[3]);
            case 8 -> model.held(p[0], p[1], p[2]);
            case 9 -> model.busy(p[0], p[1], p[2], p[3]);
            case 10 -> model.free(p[0], p[1], p[2]);
            case 11 -> model.next(p[0], p[1], p[2], p[3]);
            case 12 -> model.hole(p[0], p[1], p[2], p[3]);
            case 13 -> model.tally(p[0], p[1]);
            case 14 -> model.count(p[0]);
            case 15 -> model.image(p[0]);
            default -> model.restore(p[0]);
        };
    }
}
