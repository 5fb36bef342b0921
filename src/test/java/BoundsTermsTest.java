/** The boundaries that 'Terms' names under 1 and 3, and what it says of fractions. */
public final class BoundsTermsTest {
    public static void main(String[] args) {
        fractionsInLowestTerms();
        outsColoursClasses();
        ticksFromZeroOn();
        spanEnds();
        spansClash();
        reachRule();
        hopRule();
        aheadRule();
        leastRule();
        cutsRule();
        wayRule();
        lengthsOfLines();
        noSuchLine();
        fortyEightBursts();
        takenBackBurstsCount();
        hopsAndTicks();
        whenABurstComes();
        itsSpan();
        bookingsAreOfOneBurst();
        noTwoClash();
        tallyLeavesOut();
        Check.end();
    }

    private static final String TALLY = "0 1 2 3 4 5";

    private static void fractionsInLowestTerms() {
        Check.says("Fractions are told in lowest terms, the lower number above 0.");
        Run.of("tell(0, 0, 0, 1, 60)").row("tally(0, *)", TALLY, "1 60 60 0 0 1");
        Scenes.narrow(4, 60).does("tell(0, 0, 1, 1, 1)").row("tally(1, *)", TALLY, "1 1 0 1 1 1");
        Run lost = Scenes.narrow(10, 10).tells(0, 0, 10, 10).row("tally(0, *)", TALLY, "2 20 10 1 1 2");
        lost.tells(0, 0, 10, 10).row("tally(0, *)", TALLY, "3 30 10 2 2 3");
        lost.tells(0, 0, 10, 1).row("tally(0, *)", TALLY, "4 31 10 3 21 31");
        lost.does("back(0)").row("tally(0, *)", TALLY, "3 21 0 3 1 1");
        // All 48 with 60 TICKS each, one of them BOOKED: 47 by 48 is 2820 by 2880.
        Scenes.narrow(20, 60).does(47, "tell(0, 0, 0, 1, 60)").row("tally(0, *)", TALLY, "48 2880 60 47 47 48");
    }

    private static void outsColoursClasses() {
        Check.says("OUTS are 0, 1; COLOURS 0 to 5; CLASSES 0 to 2.");
        for (int out = -1; out <= 2; out++) {
            for (int colour = -1; colour <= 6; colour++) {
                boolean there = out >= 0 && out <= 1 && colour >= 0 && colour <= 5;
                new Run().due(new Asked("booking", out, colour, 0, 0), there ? -6 : -1)
                        .due(new Asked("hole", out, colour, 0, 0), there ? -6 : -1)
                        .due(new Asked("busy", out, colour, 0, 1), there ? 0 : -1)
                        .due(new Asked("next", out, colour, 9, 1), there ? 9 : -1);
                for (int kind = -1; kind <= 3; kind++) {
                    boolean known = there && kind >= 0 && kind <= 2;
                    new Run().due(new Asked("would", out, colour, kind, 1, 1), known ? 0 : -1)
                            .due(new Asked("tell", out, colour, kind, 1, 1), known ? 0 : -1)
                            .due("count(1)", known ? 1 : 0);
                }
            }
        }
        new Run().row("free(*, 0, 1)", "-1 0 1 2", "-1 63 63 -1").row("tally(*, 0)", "-1 0 1 2 3", "-1 0 0 0 -1");
    }

    private static void ticksFromZeroOn() {
        Check.says("TICKS are whole numbers from 0 on; NOW is 0 at first.");
        new Run().due("count(0)", 0).row("busy(0, 0, *, 1)", "-1 0", "-2 0").row("next(0, 0, *, 1)", "-1 0", "-2 0")
                .row("free(0, *, 1)", "-1 0", "-2 63").does("tell(0, 0, 0, 1, 1)").row("hole(0, 0, 0, *)", "0 1", "0 4");
    }

    private static void spanEnds() {
        Check.says("A SPAN from a on, of n TICKS, has the TICKS a, a and 1, .., a and n less 1; it ENDS at a and n, added.");
        Scenes.narrow(7, 1).row("busy(0, 0, *, 1)", "6 7 8", "0 1 0").due("next(0, 0, 7, 1)", 8);
        Scenes.narrow(7, 2).row("busy(0, 0, *, 1)", "6 7 8 9", "0 1 1 0").due("next(0, 0, 7, 1)", 9);
        Scenes.narrow(7, 60).row("busy(0, 0, *, 1)", "6 7 8 66 67", "0 1 1 1 0").due("next(0, 0, 7, 1)", 67);
        // What is asked for ends likewise: 0 to 6 are free, 0 to 7 are not.
        Scenes.narrow(7, 60).row("busy(0, 0, 0, *)", "7 8 66 67 68", "0 1 59 60 60").row("free(0, 0, *)", "7 8", "63 62")
                .row("busy(0, 0, 66, *)", "1 2 2000", "1 1 1");
    }

    /** Beside a BOOKING on 10 to 19. */
    private static void spansClash() {
        Check.says("Two SPANS CLASH, if they have any TICK together.");
        Run run = Scenes.narrow(10, 10);
        run.due("free(0, 5, 5)", 63).would(0, 0, 5, 5, 0);
        run.due("free(0, 5, 6)", 62).would(0, 0, 5, 6, 3);
        run.due("free(0, 9, 1)", 63).would(0, 0, 9, 1, 0);
        run.due("free(0, 10, 1)", 62).would(0, 0, 10, 1, 3);
        run.due("free(0, 14, 2)", 62).would(0, 0, 14, 2, 3);
        run.due("free(0, 10, 10)", 62).would(0, 0, 10, 10, 3);
        run.due("free(0, 9, 12)", 62).would(0, 0, 9, 12, 3);
        run.due("free(0, 19, 1)", 62).would(0, 0, 19, 1, 3);
        run.due("free(0, 19, 60)", 62).would(0, 0, 19, 60, 3);
        run.due("free(0, 20, 1)", 63).would(0, 0, 20, 1, 0);
        run.due("free(0, 20, 60)", 63).would(0, 0, 20, 60, 0);
    }

    /** The RULE at first, the least and the greatest that is taken, and the first that is refused on either side. */
    private static void rule(int what, int first, int least, int most) {
        String name = "rule(" + what + ", ";
        Run run = new Run().due("count(" + (10 + what) + ")", first);
        run.refused(name + (least - 1) + ")", -2).refused(name + (most + 1) + ")", -2);
        run.due(name + least + ")", first).due("count(" + (10 + what) + ")", least);
        run.refused(name + (least - 1) + ")", -2).refused(name + (most + 1) + ")", -2);
        run.due(name + most + ")", least).due("count(" + (10 + what) + ")", most);
        run.refused(name + "MIN)", -2).refused(name + "MAX)", -2);
        for (int n = least; n <= most; n++) {
            run.due(name + n + ")", n == least ? most : n - 1);
        }
    }

    private static void reachRule() {
        Check.says("REACH, 0 to 5 (5 at first)");
        rule(0, 5, 0, 5);
        Run.of("rule(4, 0)").does(6, "tell(0, 0, 0, 1, 5)").row("burst(*, 7)", "0 1 2 3 4 5", "0 1 2 3 4 5")
                .due("would(0, 0, 0, 1, 5)", 3);
        Run.of("rule(4, 0)", "rule(0, 4)").does(5, "tell(0, 0, 0, 1, 5)").due("would(0, 0, 0, 1, 5)", 3)
                .due("would(0, 1, 0, 1, 5)", 0);
        Run.of("rule(4, 0)", "rule(0, 0)").does("tell(0, 0, 0, 1, 5)").due("would(0, 0, 0, 1, 5)", 3)
                .due("would(0, 1, 0, 1, 5)", 0);
    }

    private static void hopRule() {
        Check.says("HOP, 1 to 20 (4 at first)");
        rule(1, 4, 1, 20);
        Run.of("tell(0, 0, 0, 1, 1)", "rule(1, 1)", "tell(0, 0, 0, 1, 1)", "tell(0, 0, 0, 5, 1)", "rule(1, 20)",
                "tell(0, 0, 0, 1, 1)", "tell(0, 0, 0, 5, 1)").row("burst(*, 5)", "0 1 2 3 4", "4 1 5 20 100");
    }

    private static void aheadRule() {
        Check.says("AHEAD, 0 to 20 (8 at first)");
        rule(2, 8, 0, 20);
        Run.of("tell(0, 0, 2, 1, 1)", "rule(2, 0)", "tell(0, 0, 2, 1, 1)", "rule(2, 20)", "tell(0, 0, 0, 1, 1)",
                "tell(0, 0, 1, 1, 1)", "tell(0, 0, 2, 1, 1)").row("burst(*, 5)", "0 1 2 3 4", "20 4 4 24 44");
    }

    /** Only TICK 4 is booked: of a SPAN from there on all but its first TICK could be carried. */
    private static void leastRule() {
        Check.says("LEAST, 1 to 60 (3 at first)");
        rule(3, 3, 1, 60);
        Run run = Run.of("rule(0, 0)", "tell(0, 0, 0, 1, 1)");
        run.row("would(0, 0, 0, 1, *)", "1 2 3 4 60", "3 3 3 2 2");
        run.does("rule(3, 1)").row("would(0, 0, 0, 1, *)", "1 2 3 60", "3 2 2 2");
        run.does("rule(3, 59)").row("would(0, 0, 0, 1, *)", "59 60", "3 2");
        run.does("rule(3, 60)").row("would(0, 0, 0, 1, *)", "59 60", "3 3");
    }

    private static void cutsRule() {
        Check.says("CUTS, 0 or 1 (1 at first)");
        rule(4, 1, 0, 1);
        Run.of("rule(0, 0)", "tell(0, 0, 0, 1, 1)").due("would(0, 0, 0, 1, 9)", 2).does("rule(4, 0)")
                .due("would(0, 0, 0, 1, 9)", 3).does("rule(4, 1)").due("would(0, 0, 0, 1, 9)", 2);
    }

    private static void wayRule() {
        Check.says("WAY, 0 or 1 (1 at first)");
        rule(5, 1, 0, 1);
        Scenes.narrow(20, 5).would(0, 0, 10, 5, 0).does("rule(5, 0)").would(0, 0, 10, 5, 3).does("rule(5, 1)")
                .would(0, 0, 10, 5, 0);
    }

    private static void lengthsOfLines() {
        Check.says("LINES are 0 to 2; each has a LENGTH, 0 to 60 (0 at first: there is no such LINE).");
        for (int line = 0; line <= 2; line++) {
            String name = "line(" + line + ", ";
            new Run().row("count(*)", "20 21 22", "0 0 0").refused(name + "-1)", -2).refused(name + "61)", -2)
                    .due(name + "0)", 0).due(name + "60)", 0).due("count(" + (20 + line) + ")", 60)
                    .refused(name + "-1)", -2).refused(name + "61)", -2).due(name + "1)", 60).due(name + "0)", 1)
                    .row("count(*)", "20 21 22", "0 0 0").refused(name + "MIN)", -2).refused(name + "MAX)", -2);
            for (int length = 1; length <= 60; length++) {
                Scenes.narrow(5, 1).does(name + length + ")").tells(0, 0, 5, 1).placed(1, "1 0 " + (5 + length) + " 1 " + line);
            }
        }
        new Run().row("line(*, 7)", "-1 0 1 2 3", "-1 0 0 0 -1").row("held(*, 0, 0)", "-1 0 1 2 3", "-1 -6 -6 -6 -1");
    }

    /** A LINE of LENGTH 0 delays nothing, but its number is known, and what was BOOKED on it stays. */
    private static void noSuchLine() {
        Run run = Scenes.narrow(5, 1).would(0, 0, 5, 1, 3).does("line(1, 0)").would(0, 0, 5, 1, 3);
        run.does("line(1, 1)").would(0, 0, 5, 1, 1).does("line(1, 0)").would(0, 0, 5, 1, 3);
        run.does("line(1, 1)").tells(0, 0, 5, 1).does("pass(6)", "line(1, 0)").due("count(21)", 0)
                .row("held(1, 0, *)", "0 1 2 3", "5 1 1 -2").due("held(1, 1, 0)", -6).due("count(8)", 1)
                .tells(0, 0, 9, 1).would(0, 0, 9, 1, 3);
    }

    private static void fortyEightBursts() {
        Check.says("BURSTS are numbered from 0 on as they are told, 48 at most.");
        Run run = new Run().row("burst(*, 6)", "-1 0", "-1 -1");
        for (int burst = 0; burst < 48; burst++) {
            run.due("tell(1, 3, 0, 2, 5)", burst).due("burst(" + burst + ", 4)", 5).due("burst(" + (burst + 1) + ", 4)", -1);
        }
        run.due("count(1)", 48).row("burst(*, 4)", "-1 0 47 48 49", "-1 5 5 -1 -1");
        run.refused("tell(1, 3, 0, 2, 5)", -4).due("count(1)", 48).row("back(*)", "-1 47 48", "-1 0 -1");
    }

    private static void takenBackBurstsCount() {
        Run run = Run.of("rule(0, 0)").does(47, "tell(0, 0, 0, 1, 5)").does("image(0)", "tell(0, 0, 0, 1, 5)", "back(0)", "back(47)");
        run.refused("tell(0, 0, 0, 1, 5)", -4).due("count(1)", 48).due("would(0, 0, 0, 1, 5)", 0);
        run.does("restore(0)").due("tell(1, 0, 0, 1, 5)", 47).refused("tell(1, 0, 0, 1, 5)", -4);
    }

    private static void hopsAndTicks() {
        Check.says("with 1 to 5 HOPS, of 1 to 60 TICKS.");
        for (String name : new String[] {"tell", "would"}) {
            new Run().refused(name + "(0, 0, 0, 0, 1)", -2).refused(name + "(0, 0, 0, 6, 1)", -2)
                    .refused(name + "(0, 0, 0, 1, 0)", -2).refused(name + "(0, 0, 0, 1, 61)", -2)
                    .refused(name + "(0, 0, 0, -1, 1)", -2).refused(name + "(0, 0, 0, 1, -1)", -2);
        }
        new Run().row("would(0, 0, 0, *, 1)", "0 1 2 3 4 5 6", "-2 0 0 0 0 0 -2")
                .row("would(0, 0, 0, 1, *)", "0 1 2 59 60 61", "-2 0 0 0 0 -2")
                .row("tell(0, 0, 0, *, 1)", "0 1 5 6", "-2 0 1 -2").row("tell(1, 0, 0, 1, *)", "0 1 60 61", "-2 2 3 -2")
                .row("burst(*, 3)", "0 1 2 3", "1 5 1 1").row("burst(*, 4)", "0 1 2 3", "1 1 1 60");
    }

    private static void whenABurstComes() {
        Check.says("It COMES at NOW, and HOP times its HOPS, and AHEAD times its CLASS, added, as all these are when it is told.");
        Run.of("rule(1, 1)", "rule(2, 0)", "tell(0, 0, 2, 1, 1)", "pass(1)", "rule(1, 20)", "rule(2, 20)", "tell(0, 0, 0, 1, 1)",
                "tell(0, 0, 2, 5, 1)", "pass(200)", "tell(0, 0, 2, 5, 1)", "rule(1, 3)", "rule(2, 1)", "pass(7)",
                "tell(1, 0, 1, 4, 1)").row("burst(*, 5)", "0 1 2 3 4", "1 21 141 341 221");
    }

    private static void itsSpan() {
        Check.says("Its SPAN: from there on, as many TICKS as it has.");
        Run.of("tell(0, 0, 1, 2, 1)", "tell(1, 0, 2, 1, 60)").row("booking(0, 0, 0, *)", "0 1", "16 1")
                .row("booking(1, 0, 0, *)", "0 1", "20 60").row("busy(1, 0, *, 1)", "19 20 79 80", "0 1 1 0");
    }

    private static void bookingsAreOfOneBurst() {
        Check.says("BOOKINGS are SPANS, each of one BURST, on a COLOUR of an OUT, or on a LINE.");
        // BOOKINGS that touch are two still, and so they are told.
        Scenes.narrow(5, 5).tells(0, 0, 10, 5).does("line(0, 20)").tells(0, 0, 5, 5).tells(0, 0, 10, 5).row("count(*)", "7 8", "4 2")
                .row("booking(0, 0, *, 2)", "0 1 2 3 4", "0 1 2 3 -6").row("booking(0, 0, *, 0)", "0 1 2 3", "5 10 25 30")
                .row("held(0, *, 2)", "0 1 2", "2 3 -6").row("held(0, *, 1)", "0 1", "5 5");
    }

    /** Crowded in either WAY: however it is told, no TICK is booked twice on a COLOUR of an OUT, or on a LINE. */
    private static void noTwoClash() {
        Check.says("Of one COLOUR of one OUT, and of one LINE, no two CLASH.");
        for (int way = 0; way <= 1; way++) {
            Run run = Run.of("rule(5, " + way + ")", "rule(0, 2)", "rule(3, 1)", "line(0, 11)", "line(1, 5)", "line(2, 23)");
            for (int burst = 0; burst < 48; burst++) {
                run.does("tell(" + burst % 2 + ", " + burst % 6 + ", " + burst % 3 + ", " + (1 + burst % 5) + ", " + (1 + burst * 7 % 19) + ")");
            }
            Check.due("some of each fate", run.ask("count(3)") > 0 && run.ask("count(4)") > 0 && run.ask("count(5)") > 0, true);
            for (int track = 0; track < 15; track++) {
                String name = track < 12 ? "booking(" + track / 6 + ", " + track % 6 : "held(" + (track - 12);
                rising(run.again(), name);
            }
        }
    }

    private static void rising(Run run, String name) {
        int end = 0;
        for (int i = 0; run.ask(name + ", " + i + ", 0)") != -6; i++) {
            int from = run.ask(name + ", " + i + ", 0)");
            Check.due(name + ", " + i + ") begins where the one before has ended", from >= end, true);
            end = from + run.ask(name + ", " + i + ", 1)");
        }
    }

    /** Of CLASS 0 one BURST of each FATE: SENT, DELAYED, CUT to 3 of 13, LOST; each is TAKEN BACK. */
    private static void tallyLeavesOut() {
        Check.says("A TALLY for each CLASS, of all its BURSTS that are not TAKEN BACK: how many there are, how many TICKS they "
                + "have, how many of these are BOOKED (on COLOURS), how many BURSTS are LOST.");
        Run run = Run.of("rule(0, 0)", "line(1, 20)", "tell(0, 3, 0, 1, 10)", "tell(0, 3, 0, 1, 11)", "tell(0, 3, 0, 1, 13)",
                "tell(0, 3, 0, 1, 9)", "tell(0, 3, 1, 1, 60)").row("burst(*, 6)", "0 1 2 3", "0 1 2 3");
        run.row("tally(0, *)", TALLY, "4 43 24 1 19 43");
        run.again().does("back(0)").row("tally(0, *)", TALLY, "3 33 14 1 19 33");
        run.again().does("back(1)").row("tally(0, *)", TALLY, "3 32 13 1 19 32");
        run.again().does("back(2)").row("tally(0, *)", TALLY, "3 30 21 1 3 10");
        run.again().does("back(3)").row("tally(0, *)", TALLY, "3 34 24 0 5 17");
        run.row("tally(2, *)", TALLY, "0 0 0 0 -6 -6");
        run.does("back(0)", "back(1)", "back(2)", "back(3)").row("tally(0, *)", TALLY, "0 0 0 0 -6 -6");
        run.refused("back(0)", -5).row("tally(0, *)", "0 3", "0 0").row("tally(1, *)", "0 1", "1 60");
        run.does("back(4)").row("tally(1, *)", TALLY, "0 0 0 0 -6 -6");
    }
}
