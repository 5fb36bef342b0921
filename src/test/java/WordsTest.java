/** The sentences of 'Terms' that name no boundary: what the class is for, and what its constants are. */
public final class WordsTest {
    public static void main(String[] args) {
        toldBeforeTheyCome();
        bookedOnColours();
        roundThroughALine();
        twoWaysOfBooking();
        whatIsTold();
        takenBackBeforeTheyCome();
        toldForAnOut();
        constants();
        Check.end();
    }

    private static void toldBeforeTheyCome() {
        Check.says("Bursts are told some time before they come, the longer the more hops they have to go and the higher their class");
        for (String rules : new String[] {"1 1", "4 8", "20 20"}) {
            Run run = Run.of("rule(1, " + rules.split(" ")[0] + ")", "rule(2, " + rules.split(" ")[1] + ")", "pass(9)");
            int burst = 0;
            for (int hops = 1; hops <= 5; hops++) {
                for (int kind = 0; kind < 3; kind++) {
                    run.does("tell(0, 0, " + kind + ", " + hops + ", 1)");
                    comesBehind(run, burst, 9);
                    if (kind > 0) {
                        comesBehind(run, burst, run.ask("burst(" + (burst - 1) + ", 5)"));
                    }
                    if (hops > 1) {
                        comesBehind(run, burst, run.ask("burst(" + (burst - 3) + ", 5)"));
                    }
                    burst++;
                }
            }
        }
        // AHEAD may be 0: then all CLASSES come alike, but none before it is told.
        Run.of("rule(1, 1)", "rule(2, 0)").does("tell(0, 0, 0, 1, 1)", "tell(0, 0, 2, 1, 1)").row("burst(*, 5)", "0 1", "1 1");
    }

    private static void comesBehind(Run run, int burst, int tick) {
        Check.due("burst " + burst + " comes behind " + tick, run.ask("burst(" + burst + ", 5)") > tick, true);
    }

    private static void bookedOnColours() {
        Check.says("they are booked on colours of two outgoing fibres, of those colours into which theirs can be turned, and no two "
                + "at one time.");
        Run run = Run.of("rule(0, 1)", "rule(4, 0)").does(4, "tell(0, 0, 0, 1, 5)").does(4, "tell(1, 0, 0, 1, 5)");
        run.row("burst(*, 7)", "0 1 2 3 4 5 6 7", "0 1 -6 -6 0 1 -6 -6").row("free(*, 4, 5)", "0 1", "60 60").row("burst(*, 1)", "0 1", "0 0");
    }

    private static void roundThroughALine() {
        Check.says("Where there is no room a burst can go round through a line that delays it, the only place where light can be; or a "
                + "piece of it is carried, and the rest is lost; or all of it.");
        Run run = Run.of("rule(0, 0)", "line(2, 30)").does("tell(0, 0, 0, 1, 5)", "tell(0, 0, 0, 1, 6)", "tell(0, 0, 0, 1, 9)", "tell(0, 0, 0, 1, 5)");
        run.placed(0, "0 0 4 5 -6").placed(1, "1 0 34 6 2").placed(2, "2 0 9 4 -6").placed(3, "3 -6 -6 0 -6");
        run.row("held(2, 0, *)", "0 1 2", "4 6 1").row("tally(0, *)", "1 2 3", "25 15 1");
    }

    private static void twoWaysOfBooking() {
        Check.says("Two ways of booking: behind all that is booked, or in voids between, too.");
        Run run = Run.of("rule(0, 0)", "tell(0, 0, 1, 1, 5)", "rule(5, 0)").row("would(0, 0, *, 1, 5)", "0 1 2", "3 3 0");
        run.does("rule(5, 1)").row("would(0, 0, *, 1, 5)", "0 1 2", "0 3 0");
    }

    private static void whatIsTold() {
        Check.says("It is told what becomes of each burst, what would become of one, what is booked when, which voids are left, what each "
                + "class has lost");
        Run.of("rule(0, 0)").does(2, "tell(0, 0, 1, 1, 5)").row("burst(*, 6)", "0 1", "0 3").due("would(0, 0, 1, 1, 8)", 2)
                .row("booking(0, 0, 0, *)", "0 1 2", "12 5 0").row("hole(0, 0, 0, *)", "0 1", "0 12").row("tally(*, 3)", "0 1 2", "0 1 0")
                .row("tally(1, *)", "4 5", "1 2");
    }

    private static void takenBackBeforeTheyCome() {
        Check.says("bursts that have not come yet can be taken back; images.");
        Run run = Run.of("tell(0, 0, 0, 1, 5)", "tell(0, 0, 0, 2, 5)", "image(0)", "pass(4)");
        run.row("back(*)", "0 1", "-3 5").due("restore(0)", 1).row("back(*)", "0 1", "5 5");
    }

    private static void toldForAnOut() {
        Check.says("Each is told for an OUT, in a COLOUR, of a CLASS,");
        for (int out = 0; out < 2; out++) {
            for (int colour = 0; colour < 6; colour++) {
                for (int kind = 0; kind < 3; kind++) {
                    new Run().due(new Asked("tell", out, colour, kind, 2, 7), 0).row("burst(0, *)", "0 1 2 3 4 5 6 7",
                            out + " " + colour + " " + kind + " 2 7 " + (8 + 8 * kind) + " 0 " + colour);
                }
            }
        }
    }

    private static void constants() {
        Check.says("The constants: `UNKNOWN = -1, OUTSIDE = -2, STATE = -3, FULL = -4, NO = -5, NONE = -6`: What refused calls answer; "
                + "NONE: there is none.");
        new Run().due("burst(0, 0)", LightBursts.UNKNOWN).due("pass(0)", LightBursts.OUTSIDE).due("restore(0)", LightBursts.STATE)
                .due("booking(0, 0, 0, 0)", LightBursts.NONE).does(48, "tell(0, 0, 2, 1, 60)").due("tell(0, 0, 2, 1, 60)", LightBursts.FULL)
                .does("back(7)").due("back(7)", LightBursts.NO);
    }
}
