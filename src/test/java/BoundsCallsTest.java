import java.util.List;

/** The boundary that 'What it is' names: how many calls an object is promised for. */
public final class BoundsCallsTest {
    private static final int[] EDGES = {Integer.MIN_VALUE, -1, 0, 1, 2, 5, 47, 48, 60, 2000, 20000, Integer.MAX_VALUE};

    public static void main(String[] args) {
        Check.says("An object is used for at most 512 calls after it has been made");
        nowRisesForAllCalls();
        everyCallAnswersAsTheLast();
        allBurstsAreToldAsTheLast();
        Check.says("what later calls answer is free");
        laterCallsEndWithoutFault();
        Check.end();
    }

    private static void nowRisesForAllCalls() {
        Run run = new Run();
        for (int call = 1; call <= 511; call++) {
            run.due("pass(200)", 200 * call);
        }
        Check.due("calls made", run.due("count(0)", 102200).howManyCalls(), 512);
    }

    /** BURST 0 is SENT on TICKS 4 to 13, BURST 1 held by LINE 0 and BOOKED on 64 to 73; NOW is 506. */
    private static void everyCallAnswersAsTheLast() {
        Run used = Run.of("rule(0, 0)", "line(0, 60)", "tell(0, 0, 0, 1, 10)", "tell(0, 0, 0, 1, 10)", "image(0)")
                .does(506, "pass(1)");
        Check.due("calls ahead of the last", used.howManyCalls(), 511);
        used.again().due("rule(0, 5)", 0);
        used.again().due("line(0, 1)", 60);
        used.again().due("pass(200)", 706);
        used.again().due("tell(0, 0, 2, 5, 60)", 2);
        used.again().due("would(0, 0, 2, 5, 60)", 0);
        used.again().due("back(1)", -3);
        used.again().due("burst(1, 8)", 64);
        used.again().due("booking(0, 0, 1, 0)", 64);
        used.again().due("held(0, 0, 1)", 10);
        used.again().due("busy(0, 0, 0, 2000)", 20);
        used.again().due("free(0, 0, 2000)", 62);
        used.again().due("next(0, 0, 0, 5)", 14);
        used.again().due("hole(0, 0, 0, 0)", -6);
        used.again().due("tally(0, 2)", 20);
        used.again().due("count(0)", 506);
        used.again().due("image(1)", 1);
        used.again().due("restore(0)", 1);
    }

    private static void allBurstsAreToldAsTheLast() {
        Run run = Run.of("rule(0, 0)").does(462, "pass(200)");
        for (int burst = 0; burst < 48; burst++) {
            run.due("tell(1, 5, 0, 1, 1)", burst);
        }
        Check.due("calls made", run.due("booking(1, 5, 0, 0)", 92404).howManyCalls(), 512);
    }

    /** LANGUAGE.md, rule 7: no call may throw or fail to end, in any state; NOW is led over the greatest int, too. */
    private static void laterCallsEndWithoutFault() {
        LightBursts x = new LightBursts();
        x.line(0, 60);
        x.line(1, 1);
        for (int burst = 0; burst < 24; burst++) {
            x.tell(0, burst % 6, 0, 1, 60);
        }
        for (int round = 0; round < 5; round++) {
            askAtEdges(x);
            for (int call = 0; call < 5_400_000; call++) {
                x.pass(200);
            }
            x.tell(1, round, 2, 5, 60);
            x.image(round % 2);
        }
        Check.due("all calls have ended", x.count(23), -2);
    }

    private static void askAtEdges(LightBursts x) {
        for (int a : EDGES) {
            for (String name : List.of("pass", "back", "count", "image", "restore")) {
                new Asked(name, a).on(x);
            }
            for (int b : EDGES) {
                for (String name : List.of("rule", "line", "burst", "tally")) {
                    new Asked(name, a, b).on(x);
                }
                for (int c : EDGES) {
                    new Asked("held", a, b, c).on(x);
                    new Asked("free", a, b, c).on(x);
                    for (int d : EDGES) {
                        for (String name : List.of("booking", "busy", "next", "hole")) {
                            new Asked(name, a, b, c, d).on(x);
                        }
                        new Asked("tell", a, b, c, d, 60).on(x);
                        new Asked("would", a, b, c, 1, d).on(x);
                    }
                }
            }
        }
    }
}
