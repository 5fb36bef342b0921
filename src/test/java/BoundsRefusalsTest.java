import java.util.ArrayList;
import java.util.List;
import java.util.Map;
import java.util.function.Supplier;

/** What 'Terms' says of refused calls: which answer comes first, and that nothing is changed. */
public final class BoundsRefusalsTest {
    private static final int MIN = Integer.MIN_VALUE;
    private static final int MAX = Integer.MAX_VALUE;
    private static final int UNKNOWN = -1;
    private static final int OUTSIDE = -2;
    /** So many refused calls on one object leave enough of its 512 calls to look at it. */
    private static final int BATCH = 200;

    /** The numbers that a parameter may be, and what is answered if it is another. */
    private record Range(int refusal, int least, int most) {
        boolean has(int n) {
            return n >= least && n <= most;
        }

        int[] corners() {
            return refusal == 0 ? new int[] {MIN, -1, 0, MAX} : new int[] {MIN, least - 1, least, most, most + 1, MAX};
        }
    }

    private static final Range OUT = new Range(UNKNOWN, 0, 1);
    private static final Range COLOUR = new Range(UNKNOWN, 0, 5);
    private static final Range CLASS = new Range(UNKNOWN, 0, 2);
    private static final Range LINE = new Range(UNKNOWN, 0, 2);
    private static final Range FROM = new Range(OUTSIDE, 0, 20000);
    private static final Range SPAN = new Range(OUTSIDE, 1, 2000);
    private static final Range ANY = new Range(0, MIN, MAX);

    public static void main(String[] args) {
        scenesAreAsTold();
        for (Supplier<Run> scene : List.<Supplier<Run>>of(Run::new, Scenes::worn, Scenes::full)) {
            Check.says("UNKNOWN -1 (no such OUT, COLOUR, CLASS, LINE, BURST), OUTSIDE -2 (another number is not as told)");
            cornersOfEveryCall(scene);
            rulesAtTheirCorners(scene);
        }
        Check.says("Calls that are refused answer the first of these that fits: UNKNOWN -1 (no such OUT, COLOUR, CLASS, LINE, BURST), "
                + "OUTSIDE -2 (another number is not as told), STATE -3, NO -5 (both as told with the call), FULL -4.");
        unknownAheadOfNo();
        outsideAheadOfNo();
        outsideAheadOfState();
        stateAheadOfNo();
        unknownAndOutsideAheadOfFull();
        refusalsAheadOfNone();
        Check.says("What is refused changes nothing.");
        eachRefusalChangesNothing();
        refusalsBetweenOtherCallsChangeNothing();
        Check.end();
    }

    private static void scenesAreAsTold() {
        Scenes.worn().row("burst(*, 6)", "0 1 2 3 4 5 6 7 8", "0 0 0 1 2 3 4 0 0").row("count(*)", "0 1 9", "7 9 3")
                .row("held(0, 0, *)", "0 1 2", "4 8 3");
        Scenes.full().row("count(*)", "0 1 2 3 4 5 6 8 9", "2 48 2 2 0 43 1 2 0");
    }

    private static Map<String, List<Range>> parameters(int told) {
        Range burst = new Range(UNKNOWN, 0, told - 1);
        List<Range> ofBurst = List.of(OUT, COLOUR, CLASS, outside(1, 5), outside(1, 60));
        return Map.ofEntries(
                Map.entry("line", List.of(LINE, outside(0, 60))),
                Map.entry("pass", List.of(outside(1, 200))),
                Map.entry("tell", ofBurst),
                Map.entry("would", ofBurst),
                Map.entry("back", List.of(burst)),
                Map.entry("burst", List.of(burst, outside(0, 10))),
                Map.entry("booking", List.of(OUT, COLOUR, ANY, outside(0, 2))),
                Map.entry("held", List.of(LINE, ANY, outside(0, 2))),
                Map.entry("busy", List.of(OUT, COLOUR, FROM, SPAN)),
                Map.entry("free", List.of(OUT, FROM, SPAN)),
                Map.entry("next", List.of(OUT, COLOUR, FROM, SPAN)),
                Map.entry("hole", List.of(OUT, COLOUR, ANY, outside(0, 1))),
                Map.entry("tally", List.of(CLASS, outside(0, 5))),
                Map.entry("count", List.of(outside(0, 22))),
                Map.entry("image", List.of(outside(0, 1))),
                Map.entry("restore", List.of(outside(0, 1))));
    }

    private static Range outside(int least, int most) {
        return new Range(OUTSIDE, least, most);
    }

    /** Every call with every choice of numbers at the edges of what they may be, if any of them is wrong. */
    private static void cornersOfEveryCall(Supplier<Run> scene) {
        List<Asked> unknown = new ArrayList<>();
        List<Asked> outside = new ArrayList<>();
        parameters(scene.get().ask("count(1)")).forEach((name, ranges) -> {
            for (int[] p : choices(ranges, 0)) {
                int refusal = refusal(ranges, p);
                if (refusal != 0) {
                    (refusal == UNKNOWN ? unknown : outside).add(new Asked(name, p));
                }
            }
        });
        allRefused(scene, unknown, UNKNOWN);
        allRefused(scene, outside, OUTSIDE);
    }

    private static List<int[]> choices(List<Range> ranges, int first) {
        if (first == ranges.size()) {
            return List.of(new int[ranges.size()]);
        }
        List<int[]> all = new ArrayList<>();
        for (int[] rest : choices(ranges, first + 1)) {
            for (int corner : ranges.get(first).corners()) {
                int[] choice = rest.clone();
                choice[first] = corner;
                all.add(choice);
            }
        }
        return all;
    }

    private static int refusal(List<Range> ranges, int[] p) {
        int found = 0;
        for (int i = 0; i < p.length; i++) {
            int refusal = ranges.get(i).has(p[i]) ? 0 : ranges.get(i).refusal();
            found = refusal == 0 || found == UNKNOWN ? found : refusal;
        }
        return found;
    }

    private static void allRefused(Supplier<Run> scene, List<Asked> calls, int want) {
        for (int at = 0; at < calls.size(); at += BATCH) {
            scene.get().refused(calls.subList(at, Math.min(calls.size(), at + BATCH)), want);
        }
    }

    private static void rulesAtTheirCorners(Supplier<Run> scene) {
        int[][] ranges = {{0, 5}, {1, 20}, {0, 20}, {1, 60}, {0, 1}, {0, 1}};
        List<Asked> outside = new ArrayList<>();
        for (int what = 0; what < ranges.length; what++) {
            for (int n : new int[] {MIN, ranges[what][0] - 1, ranges[what][1] + 1, MAX}) {
                outside.add(new Asked("rule", what, n));
            }
        }
        for (int what : new int[] {MIN, -1, 6, MAX}) {
            for (int n : new int[] {MIN, -1, 0, 1, 5, 60, 61, MAX}) {
                outside.add(new Asked("rule", what, n));
            }
        }
        for (int what = 16; what < 20; what++) {
            outside.add(new Asked("count", what));
        }
        allRefused(scene, outside, OUTSIDE);
    }

    /** Each of the three LINES holds a BURST that has not gone. */
    private static Run heldByAll() {
        return Run.of("rule(0, 0)", "line(0, 10)", "line(1, 20)", "line(2, 30)").does(4, "tell(0, 0, 0, 1, 10)")
                .row("burst(*, 10)", "1 2 3", "0 1 2");
    }

    private static void unknownAheadOfNo() {
        heldByAll().refused("line(-1, 5)", -1).refused("line(3, 5)", -1).refused("line(3, 61)", -1)
                .refused("line(0, 5)", -5).refused("line(2, 5)", -5);
    }

    private static void outsideAheadOfNo() {
        heldByAll().refused("line(0, -1)", -2).refused("line(0, 61)", -2).refused("line(2, MIN)", -2)
                .refused("line(2, MAX)", -2).refused("line(0, 0)", -5).refused("line(2, 60)", -5);
    }

    private static void outsideAheadOfState() {
        new Run().refused("restore(-1)", -2).refused("restore(2)", -2).refused("restore(0)", -3).refused("restore(1)", -3);
    }

    private static void stateAheadOfNo() {
        Run.of("tell(0, 0, 0, 1, 9)", "back(0)", "pass(3)").refused("back(0)", -5).does("pass(1)").refused("back(0)", -3)
                .does("pass(1)").refused("back(0)", -3).refused("back(1)", -1);
    }

    private static void unknownAndOutsideAheadOfFull() {
        Scenes.full().refused("tell(2, 0, 0, 1, 10)", -1).refused("tell(0, 6, 0, 1, 10)", -1)
                .refused("tell(0, 0, 3, 1, 10)", -1).refused("tell(-1, 0, 0, 6, 61)", -1)
                .refused("tell(0, 0, 0, 0, 10)", -2).refused("tell(0, 0, 0, 6, 10)", -2)
                .refused("tell(0, 0, 0, 1, 0)", -2).refused("tell(0, 0, 0, 1, 61)", -2).refused("tell(0, 0, 0, 1, 10)", -4);
    }

    /** NONE is no refusal: it is told of what there could be, and is not. */
    private static void refusalsAheadOfNone() {
        new Run().refused("booking(2, 0, -1, 0)", -1).refused("booking(0, 0, -1, 3)", -2).due("booking(0, 0, -1, 2)", -6)
                .refused("held(3, -1, 0)", -1).refused("held(0, -1, 3)", -2).due("held(0, -1, 2)", -6)
                .refused("hole(0, 6, -1, 0)", -1).refused("hole(0, 0, -1, 2)", -2).due("hole(0, 0, -1, 1)", -6)
                .refused("tally(3, 4)", -1).refused("tally(0, 6)", -2).due("tally(0, 5)", -6);
        Scenes.worn().refused("burst(9, 7)", -1).refused("burst(5, 11)", -2).row("burst(5, *)", "7 8 10", "-6 -6 -6");
    }

    private static void eachRefusalChangesNothing() {
        Scenes.worn().refused("rule(0, 6)", -2).refused("line(3, 9)", -1).refused("line(0, 61)", -2).refused("line(0, 9)", -5)
                .refused("pass(201)", -2).refused("tell(0, 0, 3, 1, 1)", -1).refused("tell(0, 0, 0, 6, 1)", -2)
                .refused("would(0, 6, 0, 1, 1)", -1).refused("would(0, 0, 0, 1, 61)", -2).refused("back(9)", -1)
                .refused("back(0)", -3).refused("back(6)", -5).refused("image(2)", -2).refused("restore(2)", -2);
        Scenes.full().refused("tell(0, 0, 0, 1, 1)", -4).refused("restore(1)", -3);
    }

    /** The same calls with and without refused ones between them lead to the same object. */
    private static void refusalsBetweenOtherCallsChangeNothing() {
        Run plain = new Run();
        Run disturbed = new Run();
        List<String> wrong = List.of("rule(1, 21)", "line(0, 61)", "pass(0)", "tell(0, 3, 0, 0, 60)", "tell(0, 3, 0, 1, 61)",
                "would(0, 3, 3, 1, 60)", "back(48)", "image(2)", "restore(-1)");
        for (String call : List.of("rule(0, 1)", "line(1, 7)", "tell(0, 3, 0, 1, 9)", "tell(0, 3, 0, 1, 9)", "image(1)",
                "tell(0, 3, 0, 1, 9)", "tell(0, 3, 0, 1, 9)", "back(0)", "pass(2)", "tell(0, 4, 1, 1, 40)", "restore(1)",
                "tell(0, 4, 0, 1, 12)", "tell(0, 4, 0, 1, 13)", "image(0)", "tell(1, 0, 2, 5, 60)")) {
            for (String refused : wrong) {
                Check.due(refused + " is refused", disturbed.ask(refused) < 0, true);
            }
            disturbed.due(call, plain.ask(call));
        }
        disturbed.unchanged(plain.portrait(), "refused calls between the others");
    }
}
