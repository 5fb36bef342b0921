import java.util.ArrayList;
import java.util.Comparator;
import java.util.List;
import java.util.stream.IntStream;
import java.util.stream.Stream;

/**
 * The document's words once more, told as slowly and plainly as they can be: SPANS are
 * looked at TICK by TICK, choices are made by sorting all there is to choose from.
 */
final class Model {
    private static final int[][] RULES = {{0, 5}, {1, 20}, {0, 20}, {1, 60}, {0, 1}, {0, 1}};

    /** A SPAN, booked for a BURST. */
    record Span(int from, int ticks, int burst) {
        int end() {
            return from + ticks;
        }

        boolean has(int tick) {
            return tick >= from && tick < end();
        }

        boolean clashes(int a, int n) {
            return IntStream.range(a, a + n).anyMatch(this::has);
        }
    }

    record Burst(int out, int colour, int kind, int hops, int ticks, int comes, Fate fate) {
    }

    record Fate(int number, int colour, int from, int ticks, int line) {
        static Fate none(int number) {
            return new Fate(number, -6, -6, 0, -6);
        }
    }

    private static final class State {
        int now = 0;
        int[] rules = {5, 4, 8, 3, 1, 1};
        int[] lengths = {0, 0, 0};
        List<Burst> bursts = new ArrayList<>();

        State copy() {
            State copy = new State();
            copy.now = now;
            copy.rules = rules.clone();
            copy.lengths = lengths.clone();
            copy.bursts = new ArrayList<>(bursts);
            return copy;
        }
    }

    private State s = new State();
    private final State[] images = new State[2];

    private List<Span> onColour(int out, int colour) {
        return IntStream.range(0, s.bursts.size())
                .filter(b -> s.bursts.get(b).out() == out && s.bursts.get(b).fate().colour() == colour)
                .mapToObj(b -> new Span(s.bursts.get(b).fate().from(), s.bursts.get(b).fate().ticks(), b))
                .sorted(Comparator.comparingInt(Span::from)).toList();
    }

    private List<Span> onLine(int line) {
        return IntStream.range(0, s.bursts.size())
                .filter(b -> s.bursts.get(b).fate().line() == line)
                .mapToObj(b -> new Span(s.bursts.get(b).comes(), s.bursts.get(b).ticks(), b))
                .sorted(Comparator.comparingInt(Span::from)).toList();
    }

    private boolean isFree(int out, int colour, int a, int n) {
        List<Span> all = onColour(out, colour);
        return all.stream().noneMatch(span -> span.clashes(a, n))
                && (s.rules[5] == 1 || all.stream().noneMatch(span -> span.end() > a));
    }

    private int gap(int out, int colour, int a) {
        IntStream ends = onColour(out, colour).stream().mapToInt(Span::end).filter(end -> end <= a);
        return a - IntStream.concat(IntStream.of(s.now), ends).max().getAsInt();
    }

    private Stream<Integer> reached(int colour) {
        return IntStream.range(0, 6).filter(c -> Math.abs(c - colour) <= s.rules[0]).boxed();
    }

    private static Comparator<Integer> nearest(int colour) {
        return Comparator.<Integer>comparingInt(c -> Math.abs(c - colour)).thenComparingInt(c -> c);
    }

    private int best(int out, int colour, int a, int n) {
        return reached(colour).filter(c -> isFree(out, c, a, n))
                .min(Comparator.<Integer>comparingInt(c -> gap(out, c, a)).thenComparing(nearest(colour))).orElse(-6);
    }

    private Span piece(int out, int colour, int a, int n) {
        for (int ticks = n; ticks > 0; ticks--) {
            for (int from = a; from + ticks <= a + n; from++) {
                if (isFree(out, colour, from, ticks)) {
                    return new Span(from, ticks, -6);
                }
            }
        }
        return new Span(a, 0, -6);
    }

    private int comes(int kind, int hops) {
        return s.now + s.rules[1] * hops + s.rules[2] * kind;
    }

    private Fate placed(int out, int colour, int comes, int ticks) {
        int straight = best(out, colour, comes, ticks);
        if (straight >= 0) {
            return new Fate(0, straight, comes, ticks, -6);
        }
        List<Integer> lines = Stream.of(0, 1, 2).filter(l -> s.lengths[l] > 0)
                .sorted(Comparator.<Integer>comparingInt(l -> s.lengths[l]).thenComparingInt(l -> l)).toList();
        for (int line : lines) {
            int later = comes + s.lengths[line];
            int on = best(out, colour, later, ticks);
            if (on >= 0 && onLine(line).stream().noneMatch(span -> span.clashes(comes, ticks))) {
                return new Fate(1, on, later, ticks, line);
            }
        }
        if (s.rules[4] == 1) {
            int on = reached(colour).min(Comparator.<Integer>comparingInt(c -> -piece(out, c, comes, ticks).ticks())
                    .thenComparing(nearest(colour))).orElseThrow();
            Span piece = piece(out, on, comes, ticks);
            if (piece.ticks() >= s.rules[3]) {
                return new Fate(2, on, piece.from(), piece.ticks(), -6);
            }
        }
        return Fate.none(3);
    }

    private static boolean in(int n, int from, int to) {
        return from <= n && n <= to;
    }

    int rule(int what, int n) {
        if (!in(what, 0, 5) || !in(n, RULES[what][0], RULES[what][1])) {
            return -2;
        }
        int was = s.rules[what];
        s.rules[what] = n;
        return was;
    }

    int line(int line, int length) {
        if (!in(line, 0, 2)) {
            return -1;
        }
        if (!in(length, 0, 60)) {
            return -2;
        }
        if (onLine(line).stream().anyMatch(span -> span.end() > s.now)) {
            return -5;
        }
        int was = s.lengths[line];
        s.lengths[line] = length;
        return was;
    }

    int pass(int ticks) {
        return in(ticks, 1, 200) ? s.now += ticks : -2;
    }

    private int refusal(int out, int colour, int kind, int hops, int ticks) {
        if (!in(out, 0, 1) || !in(colour, 0, 5) || !in(kind, 0, 2)) {
            return -1;
        }
        return in(hops, 1, 5) && in(ticks, 1, 60) ? 0 : -2;
    }

    int tell(int out, int colour, int kind, int hops, int ticks) {
        int refusal = refusal(out, colour, kind, hops, ticks);
        if (refusal != 0) {
            return refusal;
        }
        if (s.bursts.size() == 48) {
            return -4;
        }
        int comes = comes(kind, hops);
        s.bursts.add(new Burst(out, colour, kind, hops, ticks, comes, placed(out, colour, comes, ticks)));
        return s.bursts.size() - 1;
    }

    int would(int out, int colour, int kind, int hops, int ticks) {
        int refusal = refusal(out, colour, kind, hops, ticks);
        return refusal != 0 ? refusal : placed(out, colour, comes(kind, hops), ticks).number();
    }

    int back(int burst) {
        if (!in(burst, 0, s.bursts.size() - 1)) {
            return -1;
        }
        Burst b = s.bursts.get(burst);
        if (b.comes() <= s.now) {
            return -3;
        }
        if (b.fate().number() == 4) {
            return -5;
        }
        s.bursts.set(burst, new Burst(b.out(), b.colour(), b.kind(), b.hops(), b.ticks(), b.comes(), Fate.none(4)));
        return b.fate().ticks();
    }

    int burst(int burst, int what) {
        if (!in(burst, 0, s.bursts.size() - 1)) {
            return -1;
        }
        Burst b = s.bursts.get(burst);
        int[] facts = {b.out(), b.colour(), b.kind(), b.hops(), b.ticks(), b.comes(), b.fate().number(),
            b.fate().colour(), b.fate().from(), b.fate().ticks(), b.fate().line()};
        return in(what, 0, 10) ? facts[what] : -2;
    }

    private static int ofSpan(List<Span> spans, int i, int what, int kinds) {
        if (!in(what, 0, kinds - 1)) {
            return -2;
        }
        if (!in(i, 0, spans.size() - 1)) {
            return -6;
        }
        Span span = spans.get(i);
        return new int[] {span.from(), span.ticks(), span.burst()}[what];
    }

    int booking(int out, int colour, int i, int what) {
        return in(out, 0, 1) && in(colour, 0, 5) ? ofSpan(onColour(out, colour), i, what, 3) : -1;
    }

    int held(int line, int i, int what) {
        return in(line, 0, 2) ? ofSpan(onLine(line), i, what, 3) : -1;
    }

    private static int spanRefusal(boolean known, int from, int n) {
        return !known ? -1 : in(from, 0, 20000) && in(n, 1, 2000) ? 0 : -2;
    }

    int busy(int out, int colour, int from, int n) {
        int refusal = spanRefusal(in(out, 0, 1) && in(colour, 0, 5), from, n);
        if (refusal != 0) {
            return refusal;
        }
        List<Span> spans = onColour(out, colour);
        return (int) IntStream.range(from, from + n).filter(t -> spans.stream().anyMatch(span -> span.has(t))).count();
    }

    int free(int out, int from, int n) {
        int refusal = spanRefusal(in(out, 0, 1), from, n);
        if (refusal != 0) {
            return refusal;
        }
        return IntStream.range(0, 6).filter(c -> onColour(out, c).stream().noneMatch(span -> span.clashes(from, n)))
                .map(c -> 1 << c).sum();
    }

    int next(int out, int colour, int from, int n) {
        int refusal = spanRefusal(in(out, 0, 1) && in(colour, 0, 5), from, n);
        if (refusal != 0) {
            return refusal;
        }
        List<Span> spans = onColour(out, colour);
        int first = from;
        while (true) {
            int a = first;
            if (spans.stream().noneMatch(span -> span.from() < a + n && span.end() > a)) {
                return first;
            }
            first++;
        }
    }

    int hole(int out, int colour, int i, int what) {
        if (!in(out, 0, 1) || !in(colour, 0, 5)) {
            return -1;
        }
        List<Span> spans = onColour(out, colour);
        List<Span> voids = new ArrayList<>();
        for (int k = 0; k < spans.size(); k++) {
            int begins = spans.get(k).from();
            int from = k == 0 ? s.now : Math.max(s.now, spans.get(k - 1).end());
            if (begins > s.now && begins > from) {
                voids.add(new Span(from, begins - from, -6));
            }
        }
        return ofSpan(voids, i, what, 2);
    }

    int tally(int kind, int what) {
        if (!in(kind, 0, 2)) {
            return -1;
        }
        List<Burst> all = s.bursts.stream().filter(b -> b.kind() == kind && b.fate().number() != 4).toList();
        int ticks = all.stream().mapToInt(Burst::ticks).sum();
        int booked = all.stream().mapToInt(b -> b.fate().ticks()).sum();
        int lost = (int) all.stream().filter(b -> b.fate().number() == 3).count();
        int divisor = IntStream.rangeClosed(1, ticks).filter(d -> ticks % d == 0 && (ticks - booked) % d == 0).max().orElse(1);
        int[] answers = {all.size(), ticks, booked, lost,
            ticks == 0 ? -6 : (ticks - booked) / divisor, ticks == 0 ? -6 : ticks / divisor};
        return in(what, 0, 5) ? answers[what] : -2;
    }

    int count(int what) {
        if (in(what, 2, 6)) {
            return (int) s.bursts.stream().filter(b -> b.fate().number() == what - 2).count();
        }
        if (in(what, 10, 15)) {
            return s.rules[what - 10];
        }
        if (in(what, 20, 22)) {
            return s.lengths[what - 20];
        }
        return switch (what) {
            case 0 -> s.now;
            case 1 -> s.bursts.size();
            case 7 -> IntStream.range(0, 12).map(k -> onColour(k / 6, k % 6).size()).sum();
            case 8 -> IntStream.range(0, 3).map(l -> onLine(l).size()).sum();
            case 9 -> (images[0] != null ? 1 : 0) + (images[1] != null ? 2 : 0);
            default -> -2;
        };
    }

    int image(int k) {
        if (!in(k, 0, 1)) {
            return -2;
        }
        images[k] = s.copy();
        return 1;
    }

    int restore(int k) {
        if (!in(k, 0, 1)) {
            return -2;
        }
        if (images[k] == null) {
            return -3;
        }
        s = images[k].copy();
        return 1;
    }
}
