import java.util.List;

/** The boundaries that promises 1 to 8 name: a new object, rules, lines, time, and bursts. */
public final class BoundsRulesTest {
    public static void main(String[] args) {
        newObject();
        ruleAnswersWhichItWas();
        ruleLetsBookingsStay();
        ruleIsOutside();
        lineOfTheSameLength();
        lineIsUnknownOrOutside();
        lineIsHeld();
        passesOneToTwoHundred();
        passIsOutside();
        tellAnswersItsNumber();
        tellIsRefused();
        tellIsFull();
        wouldAnswersEachFate();
        wouldIsAsTell();
        wouldIsRefused();
        backAnswersTicksOnColours();
        backIsUnknown();
        backIsTakenBackAlready();
        backAsItComes();
        burstTellsEachFact();
        burstHasNone();
        burstIsRefused();
        Check.end();
    }

    private static void newObject() {
        Check.says("`LightBursts()`: No BURST, no LINE; NOW is 0; no IMAGE is kept.");
        new Run().row("count(*)", "0 1 2 3 4 5 6 7 8 9", "0 0 0 0 0 0 0 0 0 0").row("count(*)", "10 11 12 13 14 15", "5 4 8 3 1 1")
                .row("count(*)", "20 21 22", "0 0 0").row("burst(*, 0)", "-1 0 47", "-1 -1 -1").row("back(*)", "-1 0 47", "-1 -1 -1")
                .row("held(*, 0, 0)", "0 1 2", "-6 -6 -6").refused("restore(0)", -3).refused("restore(1)", -3)
                .row("free(*, 0, 2000)", "0 1", "63 63").row("free(*, 20000, 2000)", "0 1", "63 63");
        // There is no LINE: where no COLOUR is FREE, nothing is DELAYED.
        Run.of("rule(0, 0)", "rule(4, 0)", "tell(0, 0, 0, 1, 1)").due("would(0, 0, 0, 1, 1)", 3);
    }

    private static void ruleAnswersWhichItWas() {
        Check.says("REACH (what = 0), HOP (1), AHEAD (2), LEAST (3), CUTS (4), WAY (5) is n from now on (BOOKINGS stay): which it was.");
        new Run().due("rule(0, 5)", 5).due("rule(0, 0)", 5).due("rule(0, 0)", 0).due("rule(0, 5)", 0).due("rule(1, 20)", 4)
                .due("rule(1, 1)", 20).due("rule(2, 0)", 8).due("rule(2, 20)", 0).due("rule(3, 60)", 3).due("rule(3, 1)", 60)
                .due("rule(4, 0)", 1).due("rule(4, 1)", 0).due("rule(5, 0)", 1).due("rule(5, 1)", 0)
                .row("count(*)", "10 11 12 13 14 15", "5 1 20 1 1 1");
    }

    private static void ruleLetsBookingsStay() {
        Run run = Scenes.worn();
        List<String> before = bookings(run);
        for (int what = 0; what < 6; what++) {
            run.does("rule(" + what + ", 1)");
        }
        Check.due("bookings behind other rules", bookings(run), before);
    }

    private static List<String> bookings(Run run) {
        return run.portrait().stream().filter(answer -> answer.contains("booking") || answer.contains("held")
                || answer.contains("burst")).toList();
    }

    private static void ruleIsOutside() {
        Check.says("which it was. OUTSIDE: both.");
        new Run().refused("rule(-1, 0)", -2).refused("rule(-1, 1)", -2).refused("rule(6, 0)", -2).refused("rule(6, 1)", -2)
                .refused("rule(MIN, 1)", -2).refused("rule(MAX, 1)", -2).refused("rule(6, 61)", -2).refused("rule(-1, -1)", -2);
        int[][] ranges = {{0, 5}, {1, 20}, {0, 20}, {1, 60}, {0, 1}, {0, 1}};
        for (int what = 0; what < 6; what++) {
            String name = "rule(" + what + ", ";
            Scenes.worn().refused(name + (ranges[what][0] - 1) + ")", -2).refused(name + (ranges[what][1] + 1) + ")", -2)
                    .does(name + ranges[what][0] + ")", name + ranges[what][1] + ")")
                    .refused(name + (ranges[what][0] - 1) + ")", -2).refused(name + (ranges[what][1] + 1) + ")", -2);
        }
    }

    private static void lineOfTheSameLength() {
        Check.says("A LINE has another LENGTH from now on (or the same): which it had.");
        new Run().due("line(0, 0)", 0).due("line(0, 60)", 0).due("line(0, 60)", 60).due("line(0, 59)", 60).due("line(2, 1)", 0)
                .due("line(2, 0)", 1).row("count(*)", "20 21 22", "59 0 0");
    }

    private static void lineIsUnknownOrOutside() {
        Check.says("UNKNOWN; OUTSIDE; NO: there is a BOOKING on it that ENDS behind NOW.");
        Scenes.worn().refused("line(-1, 0)", -1).refused("line(3, 0)", -1).refused("line(MIN, 60)", -1).refused("line(MAX, 60)", -1)
                .refused("line(-1, -1)", -1).refused("line(3, 61)", -1).refused("line(1, -1)", -2).refused("line(1, 61)", -2);
    }

    /** LINE 1 holds BURST 1 on 5 to 14, and BURST 2, which COMES later, on 20 to 22. */
    private static void lineIsHeld() {
        Run run = Scenes.narrow(5, 18).does("line(1, 40)").tells(0, 0, 5, 10).tells(0, 0, 20, 3).row("burst(*, 10)", "1 2", "1 1");
        run.refused("line(1, 40)", -5).refused("line(1, 0)", -5).due("line(0, 7)", 0).due("line(2, 7)", 0);
        Run last = run.again().does("back(2)", "pass(14)").refused("line(1, 40)", -5).refused("line(1, 41)", -5);
        last.does("pass(1)").due("line(1, 40)", 40).due("line(1, 0)", 40).row("held(1, 0, *)", "0 1 2", "5 10 1");
        // Between the two nothing is held, but one is to come.
        run.does("pass(16)").refused("line(1, 40)", -5).does("pass(6)").refused("line(1, 40)", -5).does("pass(1)").due("line(1, 2)", 40);
        // What is held is TAKEN BACK; and what goes out behind the LINE does not hold it.
        Scenes.narrow(5, 18).does("line(1, 40)").tells(0, 0, 5, 10).refused("line(1, 9)", -5).does("back(1)").due("line(1, 9)", 40);
        Scenes.narrow(5, 10).does("line(1, 10)").tells(0, 0, 5, 10).does("pass(15)").due("line(1, 9)", 10).due("booking(0, 0, 1, 0)", 15);
    }

    private static void passesOneToTwoHundred() {
        Check.says("So many TICKS (1 to 200) pass: NOW.");
        new Run().due("pass(1)", 1).due("count(0)", 1).due("pass(200)", 201).due("count(0)", 201).due("pass(199)", 400).due("pass(1)", 401);
    }

    private static void passIsOutside() {
        Check.says("So many TICKS (1 to 200) pass: NOW. OUTSIDE.");
        Scenes.worn().refused("pass(0)", -2).refused("pass(201)", -2).refused("pass(-1)", -2).refused("pass(-200)", -2)
                .refused("pass(MIN)", -2).refused("pass(MAX)", -2).due("pass(1)", 8);
    }

    private static void tellAnswersItsNumber() {
        Check.says("A BURST is told, and PLACED: its number.");
        new Run().due("tell(0, 0, 0, 1, 1)", 0).due("tell(1, 5, 2, 5, 60)", 1).due("tell(0, 0, 0, 1, 1)", 2).does("back(1)")
                .due("tell(1, 5, 2, 5, 60)", 3).row("burst(*, 6)", "0 1 2 3", "0 4 0 0").due("count(1)", 4);
    }

    private static void tellIsRefused() {
        Check.says("UNKNOWN: the OUT, the COLOUR, the CLASS; OUTSIDE: HOPS, TICKS; FULL.");
        Scenes.worn().refused("tell(-1, 0, 0, 1, 1)", -1).refused("tell(2, 0, 0, 1, 1)", -1).refused("tell(0, -1, 0, 1, 1)", -1)
                .refused("tell(0, 6, 0, 1, 1)", -1).refused("tell(0, 0, -1, 1, 1)", -1).refused("tell(0, 0, 3, 1, 1)", -1)
                .refused("tell(0, 0, 0, 0, 1)", -2).refused("tell(0, 0, 0, 6, 1)", -2).refused("tell(0, 0, 0, 1, 0)", -2)
                .refused("tell(0, 0, 0, 1, 61)", -2).refused("tell(2, 0, 0, 0, 0)", -1).refused("tell(0, 0, 3, 6, 61)", -1)
                .due("tell(0, 0, 0, 1, 1)", 9);
    }

    private static void tellIsFull() {
        Run run = Run.of("rule(0, 0)").does(47, "tell(0, 0, 0, 1, 1)").due("tell(1, 0, 0, 1, 1)", 47);
        // FULL, whatever would become of it: SENT, CUT, LOST.
        run.refused("tell(1, 1, 0, 1, 1)", -4).refused("tell(1, 0, 0, 1, 9)", -4).refused("tell(1, 0, 0, 1, 1)", -4)
                .refused("tell(2, 0, 0, 1, 1)", -1).refused("tell(0, 0, 0, 1, 61)", -2).does("pass(200)").refused("tell(0, 0, 0, 1, 1)", -4);
    }

    private static void wouldAnswersEachFate() {
        Check.says("What the FATE of a BURST would be, if it were told: 0 to 3; nothing is changed.");
        Run run = Scenes.narrow(10, 5).does("rule(4, 1)", "line(0, 5)", "rule(1, 10)");
        run.tells(0, 0, 10, 5).does("rule(1, 10)");
        List<String> before = run.portrait();
        run.row("would(0, 0, 0, *, 9)", "1 2", "3 0").due("would(0, 0, 0, 1, 13)", 2).due("would(0, 0, 0, 1, 12)", 3);
        run.unchanged(before, "would");
        Run delayed = Scenes.narrow(10, 5).does("line(0, 5)", "rule(1, 10)");
        before = delayed.portrait();
        delayed.due("would(0, 0, 0, 1, 60)", 1).due("would(0, 0, 0, 1, 60)", 1).unchanged(before, "would, delayed");
    }

    /** Of one object asked, and of the same object told: the same FATE, for every COLOUR, CLASS and some TICKS. */
    private static void wouldIsAsTell() {
        for (int colour = 0; colour < 6; colour++) {
            for (int kind = 0; kind < 3; kind++) {
                for (int ticks : new int[] {1, 2, 9, 60}) {
                    Run run = Scenes.worn();
                    int fate = run.ask(new Asked("would", 0, colour, kind, 1, ticks));
                    run.due(new Asked("tell", 0, colour, kind, 1, ticks), 9).due("burst(9, 6)", fate);
                }
            }
        }
    }

    private static void wouldIsRefused() {
        Check.says("UNKNOWN, OUTSIDE as with tell().");
        Scenes.worn().refused("would(-1, 0, 0, 1, 1)", -1).refused("would(2, 0, 0, 1, 1)", -1).refused("would(0, -1, 0, 1, 1)", -1)
                .refused("would(0, 6, 0, 1, 1)", -1).refused("would(0, 0, -1, 1, 1)", -1).refused("would(0, 0, 3, 1, 1)", -1)
                .refused("would(0, 0, 0, 0, 1)", -2).refused("would(0, 0, 0, 6, 1)", -2).refused("would(0, 0, 0, 1, 0)", -2)
                .refused("would(0, 0, 0, 1, 61)", -2).refused("would(2, 0, 0, 0, 0)", -1);
        // FULL is no answer of would: it tells what would be, if there were room for a number.
        Scenes.full().due("would(1, 0, 0, 1, 1)", 0).due("would(0, 0, 0, 2, 1)", 1).row("would(0, 0, 0, 1, *)", "11 10", "2 3");
    }

    /** BURST 0 is SENT with 10 TICKS, 1 DELAYED with 11, 2 CUT to 3 of 13, 3 LOST. */
    private static Run ofEachFate() {
        return Run.of("rule(0, 0)", "line(1, 20)", "tell(0, 3, 0, 1, 10)", "tell(0, 3, 0, 1, 11)", "tell(0, 3, 0, 1, 13)",
                "tell(0, 3, 0, 1, 9)").row("burst(*, 6)", "0 1 2 3", "0 1 2 3");
    }

    private static void backAnswersTicksOnColours() {
        Check.says("A BURST is TAKEN BACK, its BOOKINGS go: how many TICKS were BOOKED for it on COLOURS.");
        ofEachFate().row("back(*)", "0 1 2 3", "10 11 3 0").row("count(*)", "1 2 3 4 5 6 7 8", "4 0 0 0 0 4 0 0")
                .due("held(1, 0, 0)", -6).due("booking(0, 3, 0, 0)", -6).due("busy(0, 3, 0, 2000)", 0).due("line(1, 0)", 20);
        // The others' BOOKINGS stay, and what is free again can be booked again.
        ofEachFate().does("back(1)").row("booking(0, 3, *, 2)", "0 1 2", "0 2 -6").due("held(1, 0, 0)", -6)
                .due("tell(0, 3, 0, 1, 11)", 4).placed(4, "1 3 24 11 1");
        Run.of("tell(1, 5, 2, 5, 60)", "tell(1, 4, 2, 5, 1)").row("back(*)", "0 1", "60 1").due("free(1, 0, 2000)", 63);
    }

    private static void backIsUnknown() {
        Check.says("UNKNOWN; NO: it is TAKEN BACK already");
        Scenes.worn().refused("back(-1)", -1).refused("back(9)", -1).refused("back(48)", -1).refused("back(MIN)", -1).refused("back(MAX)", -1);
        Scenes.full().refused("back(48)", -1).refused("back(-1)", -1).due("back(46)", 0);
        new Run().refused("back(0)", -1);
    }

    private static void backIsTakenBackAlready() {
        ofEachFate().does("back(0)", "back(1)", "back(2)", "back(3)").refused("back(0)", -5).refused("back(1)", -5)
                .refused("back(2)", -5).refused("back(3)", -5);
    }

    private static void backAsItComes() {
        Check.says("STATE: the TICK at which it COMES is no greater than NOW (ahead of NO).");
        ofEachFate().does("pass(3)").row("back(*)", "0 1 2 3", "10 11 3 0");
        ofEachFate().does("pass(4)").refused("back(0)", -3).refused("back(1)", -3).refused("back(2)", -3).refused("back(3)", -3);
        ofEachFate().does("pass(5)").refused("back(0)", -3).does("pass(200)").refused("back(1)", -3);
        // CUT, it is BOOKED from 14 on, DELAYED from 24 on: what counts is that it COMES at 4.
        ofEachFate().row("burst(*, 8)", "1 2", "24 14").does("pass(4)").refused("back(1)", -3).refused("back(2)", -3);
        Run taken = ofEachFate().does("back(0)", "pass(3)").refused("back(0)", -5).does("pass(1)").refused("back(0)", -3);
        taken.does("pass(1)").refused("back(0)", -3);
    }

    private static void burstTellsEachFact() {
        Check.says("Of a BURST: its OUT (what = 0), COLOUR (1), CLASS (2), HOPS (3), TICKS (4), the TICK at which it COMES (5), its "
                + "FATE (6), the COLOUR on which it is BOOKED (7), from where on (8), how many TICKS (9; 0: none), by which LINE (10).");
        String all = "0 1 2 3 4 5 6 7 8 9 10";
        Run.of("tell(0, 0, 0, 1, 1)").row("burst(0, *)", all, "0 0 0 1 1 4 0 0 4 1 -6");
        Run.of("tell(1, 5, 2, 5, 60)").row("burst(0, *)", all, "1 5 2 5 60 36 0 5 36 60 -6");
        Run run = ofEachFate().row("burst(1, *)", all, "0 3 0 1 11 4 1 3 24 11 1").row("burst(2, *)", all, "0 3 0 1 13 4 2 3 14 3 -6")
                .row("burst(3, *)", all, "0 3 0 1 9 4 3 -6 -6 0 -6");
        run.does("back(1)").row("burst(1, *)", all, "0 3 0 1 11 4 4 -6 -6 0 -6");
    }

    private static void burstHasNone() {
        Check.says("NONE: there is none such (7, 8, 10).");
        Run run = ofEachFate().row("burst(0, *)", "7 8 9 10", "3 4 10 -6").row("burst(1, *)", "7 8 9 10", "3 24 11 1")
                .row("burst(2, *)", "7 8 9 10", "3 14 3 -6").row("burst(3, *)", "7 8 9 10", "-6 -6 0 -6");
        run.does("back(0)", "back(1)", "back(2)", "back(3)");
        for (int burst = 0; burst < 4; burst++) {
            run.row("burst(" + burst + ", *)", "7 8 9 10", "-6 -6 0 -6");
        }
    }

    private static void burstIsRefused() {
        Check.says("NONE: there is none such (7, 8, 10). UNKNOWN; OUTSIDE.");
        Scenes.worn().refused("burst(-1, 0)", -1).refused("burst(9, 0)", -1).refused("burst(9, 11)", -1).refused("burst(MAX, 0)", -1)
                .refused("burst(0, -1)", -2).refused("burst(0, 11)", -2).refused("burst(8, MAX)", -2).refused("burst(8, MIN)", -2)
                .row("burst(*, 0)", "0 8", "0 1");
    }
}
