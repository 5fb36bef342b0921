import java.util.ArrayList;
import java.util.Comparator;
import java.util.List;
import java.util.Random;
import java.util.StringJoiner;

/**
 * Promises 9 to 16 in the words of one another: what booking, held, busy, free, next, hole,
 * tally and count answer follows from what burst tells of each BURST, whatever was done before.
 */
public final class AgreeTest {
    private static final int[][] SPANS = {{0, 1}, {0, 2000}, {20000, 2000}};

    /** A BOOKING: from where on, up to where, of which BURST. */
    private record Booked(int from, int end, int burst) {
        int ticksOf(int a, int n) {
            return Math.max(0, Math.min(end, a + n) - Math.max(from, a));
        }
    }

    private final Run used;
    private Run run;
    private final int now;
    private final int told;
    private final List<int[]> bursts = new ArrayList<>();

    private AgreeTest(Run used) {
        this.used = used;
        run = used.again();
        now = ask("count", 0);
        told = ask("count", 1);
        for (int burst = 0; burst < told; burst++) {
            int[] facts = new int[11];
            for (int what = 0; what < facts.length; what++) {
                facts[what] = ask("burst", burst, what);
            }
            bursts.add(facts);
        }
    }

    public static void main(String[] args) {
        new AgreeTest(new Run()).agree();
        new AgreeTest(Scenes.worn()).agree();
        new AgreeTest(Scenes.full()).agree();
        for (int seed = 0; seed < 30; seed++) {
            new AgreeTest(crowded(new Random(seed))).agree();
        }
        Check.end();
    }

    /** Some hundred calls of all kinds that change something, chosen by a fixed seed. */
    private static Run crowded(Random random) {
        Run run = new Run();
        int reach = random.nextInt(3);
        run.ask(new Asked("rule", 0, reach));
        run.ask(new Asked("rule", 3, 1 + random.nextInt(4)));
        for (int call = 0; call < 100; call++) {
            int dice = random.nextInt(20);
            if (dice < 11) {
                run.ask(new Asked("tell", random.nextInt(2), random.nextInt(6), random.nextInt(3), 1 + random.nextInt(3), 1 + random.nextInt(25)));
            } else if (dice < 14) {
                run.ask(new Asked("pass", 1 + random.nextInt(4)));
            } else if (dice < 16) {
                run.ask(new Asked("line", random.nextInt(3), random.nextInt(40)));
            } else if (dice < 18) {
                run.ask(new Asked("back", random.nextInt(48)));
            } else if (dice == 18) {
                run.ask(new Asked("rule", 5, random.nextInt(2)));
            } else {
                run.ask(new Asked(random.nextInt(4) > 0 ? "image" : "restore", random.nextInt(2)));
            }
        }
        return run;
    }

    /** An object is promised for 512 calls: when they are used up, another like it is asked. */
    private int ask(String name, int... p) {
        if (run.howManyCalls() == 512) {
            run = used.again();
        }
        return run.ask(new Asked(name, p));
    }

    private void due(int want, String name, int... p) {
        Check.due(new Asked(name, p) + " beside what burst tells", ask(name, p), want);
    }

    private void agree() {
        for (int out = 0; out < 2; out++) {
            for (int colour = 0; colour < 6; colour++) {
                List<Booked> booked = onColour(out, colour);
                bookings(booked, "booking", out, colour);
                holes(booked, out, colour);
                for (int[] span : spans()) {
                    due(booked.stream().mapToInt(b -> b.ticksOf(span[0], span[1])).sum(), "busy", out, colour, span[0], span[1]);
                    due(first(booked, span[0], span[1]), "next", out, colour, span[0], span[1]);
                }
            }
            for (int[] span : spans()) {
                due(freeSet(out, span[0], span[1]), "free", out, span[0], span[1]);
            }
        }
        for (int line = 0; line < 3; line++) {
            bookings(onLine(line), "held", line);
        }
        for (int kind = 0; kind < 3; kind++) {
            tally(kind);
        }
        counts();
    }

    private List<Booked> onColour(int out, int colour) {
        List<Booked> booked = new ArrayList<>();
        for (int burst = 0; burst < told; burst++) {
            int[] b = bursts.get(burst);
            if (b[0] == out && b[7] == colour) {
                booked.add(new Booked(b[8], b[8] + b[9], burst));
            }
        }
        booked.sort(Comparator.comparingInt(Booked::from));
        return booked;
    }

    private List<Booked> onLine(int line) {
        List<Booked> booked = new ArrayList<>();
        for (int burst = 0; burst < told; burst++) {
            int[] b = bursts.get(burst);
            if (b[10] == line) {
                booked.add(new Booked(b[5], b[5] + b[4], burst));
            }
        }
        booked.sort(Comparator.comparingInt(Booked::from));
        return booked;
    }

    private void bookings(List<Booked> booked, String name, int... where) {
        String text = name + "(" + where[0] + ", " + (where.length > 1 ? where[1] + ", " : "");
        for (int i = -1; i <= booked.size(); i++) {
            boolean there = i >= 0 && i < booked.size();
            String want = there ? booked.get(i).from() + " " + (booked.get(i).end() - booked.get(i).from()) + " " + booked.get(i).burst()
                    : "-6 -6 -6";
            StringJoiner got = new StringJoiner(" ");
            for (int what = 0; what < 3; what++) {
                Asked call = Asked.of(text + i + ", " + what + ")");
                got.add(Integer.toString(ask(call.name(), call.p())));
            }
            Check.due(text + i + ", *) beside what burst tells", got.toString(), want);
        }
    }

    private void holes(List<Booked> booked, int out, int colour) {
        int i = 0;
        int end = now;
        for (Booked b : booked) {
            if (b.from() > now && b.from() > end) {
                due(end, "hole", out, colour, i, 0);
                due(b.from() - end, "hole", out, colour, i, 1);
                i++;
            }
            end = Math.max(now, b.end());
        }
        due(-6, "hole", out, colour, i, 0);
        due(-6, "hole", out, colour, i, 1);
        due(-6, "hole", out, colour, -1, 0);
    }

    /** SPANS at the ends of their ranges, and some about NOW. */
    private List<int[]> spans() {
        List<int[]> spans = new ArrayList<>(List.of(SPANS));
        for (int from = Math.max(0, now - 10); from < now + 60; from += 7) {
            spans.add(new int[] {from, 1});
            spans.add(new int[] {from, 4});
            spans.add(new int[] {from, 15});
        }
        return spans;
    }

    private static int first(List<Booked> booked, int from, int n) {
        int first = from;
        for (int tick = from; tick <= from + 2000 && isBusy(booked, first, n); tick++) {
            first++;
        }
        return first;
    }

    private static boolean isBusy(List<Booked> booked, int from, int n) {
        return booked.stream().anyMatch(b -> b.ticksOf(from, n) > 0);
    }

    private int freeSet(int out, int from, int n) {
        int set = 0;
        for (int colour = 0; colour < 6; colour++) {
            set += isBusy(onColour(out, colour), from, n) ? 0 : 1 << colour;
        }
        return set;
    }

    private void tally(int kind) {
        List<int[]> of = bursts.stream().filter(b -> b[2] == kind && b[6] != 4).toList();
        int ticks = of.stream().mapToInt(b -> b[4]).sum();
        int booked = of.stream().mapToInt(b -> b[9]).sum();
        due(of.size(), "tally", kind, 0);
        due(ticks, "tally", kind, 1);
        due(booked, "tally", kind, 2);
        due((int) of.stream().filter(b -> b[6] == 3).count(), "tally", kind, 3);
        if (ticks == 0) {
            due(-6, "tally", kind, 4);
            due(-6, "tally", kind, 5);
            return;
        }
        int upper = ask("tally", kind, 4);
        int lower = ask("tally", kind, 5);
        Check.due("the fraction's value, of class " + kind, upper * ticks, (ticks - booked) * lower);
        for (int divisor = 2; divisor <= lower; divisor++) {
            Check.due(upper + " by " + lower + " is in lowest terms", upper % divisor == 0 && lower % divisor == 0, false);
        }
        Check.due("the lower number is above 0", lower > 0, true);
    }

    private void counts() {
        for (int fate = 0; fate < 5; fate++) {
            int wanted = fate;
            due((int) bursts.stream().filter(b -> b[6] == wanted).count(), "count", 2 + fate);
        }
        due((int) bursts.stream().filter(b -> b[9] > 0).count(), "count", 7);
        due((int) bursts.stream().filter(b -> b[10] >= 0).count(), "count", 8);
        due((int) bursts.stream().filter(b -> b[6] == 1).count(), "count", 8);
    }
}
