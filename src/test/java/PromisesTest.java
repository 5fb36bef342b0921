import java.util.Map;

/**
 * Promises 1 to 18, one by one: what each call answers, and of all that later calls show
 * exactly what it has changed, in the images too.
 */
public final class PromisesTest {
    public static void main(String[] args) {
        promise1NewObject();
        promise2Rule();
        promise2RuleForLaterBursts();
        promise3Line();
        promise4Pass();
        promise5TellSent();
        promise5TellDelayed();
        promise5TellCut();
        promise5TellLost();
        promise6Would();
        promise7Back();
        promise8to16ChangeNothing();
        promise8to16Answer();
        promise17Image();
        promise18Restore();
        Check.end();
    }

    /** REACH is 0 and LINE 1 has LENGTH 20; both IMAGES are kept, the first of a new object. */
    private static Run lined() {
        return Run.of("image(0)", "rule(0, 0)", "line(1, 20)", "image(1)");
    }

    /**
     * On COLOUR 3 of OUT 0 BURST 0 is SENT (4 to 13), 1 DELAYED by LINE 1 (there 4 to 14, then
     * 24 to 34), 2 CUT (14 to 16), 3 LOST: the VOIDS are 0 to 3 and 17 to 23.
     */
    private static Run eachFate() {
        return lined().does("tell(0, 3, 0, 1, 10)", "tell(0, 3, 0, 1, 11)", "tell(0, 3, 0, 1, 13)", "tell(0, 3, 0, 1, 9)");
    }

    /** The call answers as due; then the rows are as told, all others as before, and the IMAGES, too. */
    private static Run changes(Run run, String call, int answer, String... rows) {
        Map<String, String> before = Shown.by(run);
        Map<String, String> first = Shown.behind(run, "restore(0)");
        Map<String, String> second = Shown.behind(run, "restore(1)");
        run.due(call, answer);
        Shown.due("behind " + call, Shown.by(run), before, rows);
        Shown.due("first image behind " + call, Shown.behind(run, "restore(0)"), first);
        Shown.due("second image behind " + call, Shown.behind(run, "restore(1)"), second);
        return run;
    }

    private static void promise1NewObject() {
        Map<String, String> counts = Map.of("count(*)", "0 0 0 0 0 0 0 0 0 0", "count(1*)", "5 4 8 3 1 1", "count(2*)", "0 0 0");
        Map<String, String> others = Map.of("burst", "-1 -1 -1 -1 -1 -1 -1 -1 -1 -1 -1", "booking", "-6 -6 -6", "held", "-6 -6 -6",
                "hole", "-6 -6", "busy", "0 0 0 0 0", "next", "0 0 0 0", "free", "63 63 63 63 63", "tally", "0 0 0 0 -6 -6", "would", "0 0 0");
        Run run = new Run();
        Shown.by(run).forEach((row, got) -> {
            String name = row.substring(0, row.indexOf('('));
            Check.due("new object: " + row, got, name.equals("count") ? counts.get(row) : others.get(name));
        });
        run.row("restore(*)", "0 1", "-3 -3").row("back(*)", "0 47", "-1 -1");
        // Another object is nothing to a new one.
        Map<String, String> before = Shown.by(new Run());
        eachFate().does("pass(9)");
        Shown.due("new object beside another", Shown.by(new Run()), before);
    }

    private static void promise2Rule() {
        changes(eachFate(), "rule(0, 1)", 0, "count(1*): 1 4 8 3 1 1", "would(0, 3, 0, 1, *): 0 0 0", "would(0, 3, 1, 1, *): 0 0 0",
                "would(0, 3, 2, 1, *): 0 0 0");
        changes(eachFate(), "rule(1, 20)", 4, "count(1*): 0 20 8 3 1 1", "would(0, 3, 0, 1, *): 0 1 1", "would(0, 3, 1, 1, *): 1 1 1",
                "would(0, 3, 2, 1, *): 0 0 0");
        changes(eachFate(), "rule(2, 0)", 8, "count(1*): 0 4 0 3 1 1", "would(0, 3, 1, 1, *): 3 3 3", "would(0, 3, 2, 1, *): 3 3 3");
        changes(eachFate(), "rule(3, 5)", 3, "count(1*): 0 4 8 5 1 1", "would(0, 3, 1, 1, *): 3 3 2");
        changes(eachFate(), "rule(4, 0)", 1, "count(1*): 0 4 8 3 0 1", "would(0, 3, 1, 1, *): 3 3 3");
        changes(eachFate(), "rule(5, 0)", 1, "count(1*): 0 4 8 3 1 0", "would(0, 3, 1, 1, *): 3 3 3", "would(0, 3, 2, 1, *): 1 1 1");
        changes(eachFate(), "rule(5, 1)", 1);
        changes(eachFate(), "rule(3, 61)", -2);
        changes(eachFate(), "rule(6, 1)", -2);
    }

    /** A RULE counts from now on: for the BURSTS that are told behind it, until it is another again. */
    private static void promise2RuleForLaterBursts() {
        eachFate().does("rule(0, 1)").due("tell(0, 3, 0, 1, 9)", 4).placed(4, "0 2 4 9 -6");
        eachFate().does("rule(1, 20)").due("tell(0, 3, 0, 1, 4)", 4).due("burst(4, 5)", 20).placed(4, "0 3 20 4 -6");
        eachFate().does("rule(2, 9)").due("tell(0, 3, 2, 1, 2)", 4).due("burst(4, 5)", 22).placed(4, "0 3 22 2 -6");
        eachFate().does("rule(3, 5)").does("tell(0, 3, 1, 1, 9)", "rule(3, 4)", "tell(0, 3, 1, 1, 9)").placed(4, "3 -6 -6 0 -6")
                .placed(5, "2 3 17 4 -6");
        eachFate().does("rule(4, 0)").does("tell(0, 3, 1, 1, 9)", "rule(4, 1)", "tell(0, 3, 1, 1, 9)").placed(4, "3 -6 -6 0 -6")
                .placed(5, "2 3 17 4 -6");
        eachFate().does("rule(5, 0)", "tell(0, 3, 2, 1, 2)", "rule(5, 1)", "tell(0, 3, 2, 1, 2)").placed(4, "1 3 40 2 1")
                .placed(5, "0 3 20 2 -6");
    }

    private static void promise3Line() {
        // Through LINE 0, from 12 on, there is room in the VOID from 17 on; LINE 2, a longer one, leads behind all.
        Run run = changes(eachFate(), "line(0, 6)", 0, "count(2*): 6 20 0", "would(0, 3, 1, 1, *): 1 2 2");
        changes(run, "line(2, 60)", 0, "count(2*): 6 20 60", "would(0, 3, 0, 1, *): 1 1 1", "would(0, 3, 1, 1, *): 1 1 1");
        run.due("tell(0, 3, 1, 1, 2)", 4).placed(4, "1 3 18 2 0").row("held(0, 0, *)", "0 1 2", "12 2 4");
        changes(run, "line(0, 7)", -5);
        changes(run, "line(1, 20)", -5);
        run.does("pass(14)");
        // At 14 LINE 0 holds nothing any more, LINE 1 does for one TICK; what is BOOKED stays.
        changes(run, "line(1, 0)", -5);
        changes(run, "line(0, 7)", 6, "count(2*): 7 20 60");
        changes(run, "line(0, 7)", 7);
        changes(run.does("pass(1)"), "line(1, 0)", 20, "count(2*): 7 0 60");
        run.row("held(1, 0, *)", "0 1 2", "4 11 1").row("held(0, 0, *)", "0 1 2", "12 2 4");
        changes(eachFate(), "line(3, 1)", -1);
        changes(eachFate(), "line(0, 61)", -2);
    }

    private static void promise4Pass() {
        Run run = changes(eachFate(), "pass(7)", 7, "count(*): 7 4 1 1 1 1 0 3 1 3", "hole(0, 3, 0, *): 17 7", "hole(0, 3, 1, *): -6 -6",
                "would(0, 3, 0, 1, *): 3 2 2", "would(0, 3, 1, 1, *): 0 1 1", "would(0, 3, 2, 1, *): 1 1 1");
        run.row("back(*)", "0 1 2 3", "-3 -3 -3 -3").due("tell(0, 3, 1, 1, 2)", 4).row("burst(4, *)", "5 6 8", "19 0 19");
        changes(eachFate().does("pass(7)"), "pass(200)", 207, "count(*): 207 4 1 1 1 1 0 3 1 3", "hole(0, 3, 0, *): -6 -6",
                "would(0, 3, 0, 1, *): 0 0 0", "would(0, 3, 1, 1, *): 0 0 0", "would(0, 3, 2, 1, *): 0 0 0").due("line(1, 5)", 20);
        changes(eachFate(), "pass(0)", -2);
        changes(eachFate(), "pass(201)", -2);
    }

    private static void promise5TellSent() {
        changes(lined(), "tell(0, 3, 0, 1, 10)", 0, "count(*): 0 1 1 0 0 0 0 1 0 3", "burst(0, *): 0 3 0 1 10 4 0 3 4 10 -6",
                "booking(0, 3, 0, *): 4 10 0", "hole(0, 3, 0, *): 0 4", "busy(0, 3, *, 10): 6 10 0 0 0", "next(0, 3, 0, *): 0 14 14 14",
                "free(0, *, 10): 55 55 63 63 63", "tally(0, *): 1 10 10 0 0 1", "would(0, 3, 0, 1, *): 1 1 1", "would(0, 3, 1, 1, *): 1 1 1");
        // For the other OUT, in the last COLOUR, of the highest CLASS: it COMES at 20.
        changes(lined(), "tell(1, 5, 2, 1, 4)", 0, "count(*): 0 1 1 0 0 0 0 1 0 3", "burst(0, *): 1 5 2 1 4 20 0 5 20 4 -6",
                "booking(1, 5, 0, *): 20 4 0", "hole(1, 5, 0, *): 0 20", "busy(1, 5, *, 10): 0 0 4 0 0", "free(1, *, 10): 63 63 31 63 63",
                "tally(2, *): 1 4 4 0 0 1", "would(1, 5, 1, 1, *): 0 1 1", "would(1, 5, 2, 1, *): 1 1 1");
    }

    private static void promise5TellDelayed() {
        Run sent = lined().does("tell(0, 3, 0, 1, 10)");
        changes(sent, "tell(0, 3, 0, 1, 11)", 1, "count(*): 0 2 1 1 0 0 0 2 1 3", "burst(1, *): 0 3 0 1 11 4 1 3 24 11 1",
                "held(1, 0, *): 4 11 1", "booking(0, 3, 1, *): 24 11 1", "hole(0, 3, 1, *): 14 10", "busy(0, 3, *, 10): 6 10 0 10 1",
                "next(0, 3, 0, *): 0 14 14 35", "free(0, *, 10): 55 55 63 55 55", "tally(0, *): 2 21 21 0 0 1",
                "would(0, 3, 0, 1, *): 3 3 2", "would(0, 3, 1, 1, *): 3 2 2", "would(0, 3, 2, 1, *): 0 1 1");
    }

    private static void promise5TellCut() {
        Run delayed = lined().does("tell(0, 3, 0, 1, 10)", "tell(0, 3, 0, 1, 11)");
        changes(delayed, "tell(0, 3, 0, 1, 13)", 2, "count(*): 0 3 1 1 1 0 0 3 1 3", "burst(2, *): 0 3 0 1 13 4 2 3 14 3 -6",
                "booking(0, 3, 1, *): 14 3 2", "booking(0, 3, 2, *): 24 11 1", "hole(0, 3, 1, *): 17 7", "busy(0, 3, *, 10): 6 10 3 10 1",
                "next(0, 3, 0, *): 0 17 35 35", "free(0, *, 10): 55 55 55 55 55", "tally(0, *): 3 34 24 0 5 17",
                "would(0, 3, 0, 1, *): 3 3 3");
    }

    private static void promise5TellLost() {
        Run cut = lined().does("tell(0, 3, 0, 1, 10)", "tell(0, 3, 0, 1, 11)", "tell(0, 3, 0, 1, 13)");
        changes(cut, "tell(0, 3, 0, 1, 9)", 3, "count(*): 0 4 1 1 1 1 0 3 1 3", "burst(3, *): 0 3 0 1 9 4 3 -6 -6 0 -6",
                "tally(0, *): 4 43 24 1 19 43");
        changes(cut, "tell(2, 3, 0, 1, 9)", -1);
        changes(cut, "tell(0, 3, 0, 6, 9)", -2);
        changes(lined().does(48, "tell(1, 5, 2, 1, 60)"), "tell(0, 0, 0, 1, 1)", -4);
    }

    private static void promise6Would() {
        changes(eachFate(), "would(0, 3, 2, 1, 4)", 0);
        changes(eachFate(), "would(0, 3, 2, 1, 5)", 1);
        changes(eachFate(), "would(0, 3, 1, 1, 8)", 2);
        changes(eachFate(), "would(0, 3, 1, 1, 7)", 3);
        changes(eachFate(), "would(0, 6, 0, 1, 5)", -1);
        changes(eachFate(), "would(0, 3, 0, 1, 61)", -2);
        // And so it is, when it is told.
        eachFate().does("tell(0, 3, 2, 1, 4)").placed(4, "0 3 20 4 -6");
        eachFate().does("tell(0, 3, 2, 1, 5)").placed(4, "1 3 40 5 1");
        eachFate().does("tell(0, 3, 1, 1, 8)").placed(4, "2 3 17 3 -6");
        eachFate().does("tell(0, 3, 1, 1, 7)").placed(4, "3 -6 -6 0 -6");
    }

    private static void promise7Back() {
        changes(eachFate(), "back(0)", 10, "count(*): 0 4 0 1 1 1 1 2 1 3", "burst(0, *): 0 3 0 1 10 4 4 -6 -6 0 -6",
                "booking(0, 3, 0, *): 14 3 2", "booking(0, 3, 1, *): 24 11 1", "booking(0, 3, 2, *): -6 -6 -6", "hole(0, 3, 0, *): 0 14",
                "busy(0, 3, *, 10): 0 0 3 10 1", "next(0, 3, 0, *): 0 0 0 35", "free(0, *, 10): 63 63 55 55 55", "tally(0, *): 3 33 14 1 19 33",
                "would(0, 3, 0, 1, *): 0 0 2", "would(0, 3, 1, 1, *): 0 2 2").due("back(0)", -5);
        changes(eachFate(), "back(1)", 11, "count(*): 0 4 1 0 1 1 1 2 0 3", "burst(1, *): 0 3 0 1 11 4 4 -6 -6 0 -6", "held(1, 0, *): -6 -6 -6",
                "booking(0, 3, 2, *): -6 -6 -6", "hole(0, 3, 1, *): -6 -6", "busy(0, 3, *, 10): 6 10 3 0 0", "next(0, 3, 0, *): 0 17 17 17",
                "free(0, *, 10): 55 55 55 63 63", "tally(0, *): 3 32 13 1 19 32", "would(0, 3, 0, 1, *): 1 1 1", "would(0, 3, 1, 1, *): 1 1 1",
                "would(0, 3, 2, 1, *): 0 0 0").due("line(1, 3)", 20);
        changes(eachFate(), "back(2)", 3, "count(*): 0 4 1 1 0 1 1 2 1 3", "burst(2, *): 0 3 0 1 13 4 4 -6 -6 0 -6", "booking(0, 3, 1, *): 24 11 1",
                "booking(0, 3, 2, *): -6 -6 -6", "hole(0, 3, 1, *): 14 10", "busy(0, 3, *, 10): 6 10 0 10 1", "next(0, 3, 0, *): 0 14 14 35",
                "free(0, *, 10): 55 55 63 55 55", "tally(0, *): 3 30 21 1 3 10", "would(0, 3, 0, 1, *): 3 3 2");
        changes(eachFate(), "back(3)", 0, "count(*): 0 4 1 1 1 0 1 3 1 3", "burst(3, *): 0 3 0 1 9 4 4 -6 -6 0 -6",
                "tally(0, *): 3 34 24 0 5 17").due("tell(0, 3, 0, 1, 9)", 4);
        changes(eachFate(), "back(4)", -1);
        changes(eachFate().does("back(2)"), "back(2)", -5);
        changes(eachFate().does("back(2)", "pass(4)"), "back(2)", -3);
        changes(eachFate().does("pass(4)"), "back(1)", -3);
    }

    /** burst, booking, held, busy, free, next, hole, tally, count: all they could be asked, and what they refuse. */
    private static void promise8to16ChangeNothing() {
        Run run = eachFate().does("pass(2)");
        Map<String, String> before = Shown.by(run);
        for (Asked question : Shown.questions()) {
            if (run.howManyCalls() > 400) {
                Shown.due("behind many questions", Shown.by(run), before);
                run = eachFate().does("pass(2)");
            }
            run.ask(question);
        }
        Shown.due("behind the last questions", Shown.by(run), before);
        for (String refused : new String[] {"burst(0, 11)", "booking(0, 3, 0, 3)", "held(1, 0, 3)", "busy(0, 3, 0, 0)", "free(0, 0, 0)",
            "next(0, 3, 0, 0)", "hole(0, 3, 0, 2)", "tally(0, 6)", "count(23)"}) {
            changes(eachFate(), refused, -2);
        }
        for (String unknown : new String[] {"burst(4, 0)", "booking(0, 6, 0, 0)", "held(3, 0, 0)", "busy(2, 3, 0, 1)", "free(2, 0, 1)",
            "next(0, 6, 0, 1)", "hole(2, 3, 0, 0)", "tally(3, 0)"}) {
            changes(eachFate(), unknown, -1);
        }
    }

    private static void promise8to16Answer() {
        Run run = eachFate().row("burst(0, *)", "0 1 2 3 4 5 6 7 8 9 10", "0 3 0 1 10 4 0 3 4 10 -6")
                .row("burst(1, *)", "0 1 2 3 4 5 6 7 8 9 10", "0 3 0 1 11 4 1 3 24 11 1")
                .row("burst(2, *)", "0 1 2 3 4 5 6 7 8 9 10", "0 3 0 1 13 4 2 3 14 3 -6")
                .row("burst(3, *)", "0 1 2 3 4 5 6 7 8 9 10", "0 3 0 1 9 4 3 -6 -6 0 -6");
        run.row("booking(0, 3, *, 0)", "-1 0 1 2 3", "-6 4 14 24 -6").row("booking(0, 3, *, 1)", "-1 0 1 2 3", "-6 10 3 11 -6")
                .row("booking(0, 3, *, 2)", "-1 0 1 2 3", "-6 0 2 1 -6").row("held(1, 0, *)", "0 1 2", "4 11 1")
                .row("held(1, *, 0)", "-1 0 1", "-6 4 -6");
        run.row("busy(0, 3, *, 3)", "2 3 15 17 22 33", "1 2 2 0 1 2").row("free(0, *, 7)", "0 17 18 35", "55 63 55 63")
                .row("next(0, 3, 1, *)", "3 4 7 8", "1 17 17 35").row("hole(0, 3, *, 0)", "-1 0 1 2", "-6 0 17 -6")
                .row("hole(0, 3, *, 1)", "-1 0 1 2", "-6 4 7 -6");
        run.row("tally(0, *)", "0 1 2 3 4 5", "4 43 24 1 19 43").row("tally(1, *)", "0 1 2 3 4 5", "0 0 0 0 -6 -6")
                .row("count(*)", "0 1 2 3 4 5 6 7 8 9", "0 4 1 1 1 1 0 3 1 3").row("count(1*)", "0 1 2 3 4 5 6 9", "0 4 8 3 1 1 -2 -2")
                .row("count(2*)", "0 1 2 3", "0 20 0 -2");
    }

    /** Into the first or the second IMAGE all is kept; the other stays as it was, if it was kept. */
    private static void promise17Image() {
        for (int k = 0; k < 2; k++) {
            Run run = eachFate().does("back(0)", "pass(2)");
            Map<String, String> now = Shown.by(run);
            Map<String, String> other = Shown.behind(run, "restore(" + (1 - k) + ")");
            run.due("image(" + k + ")", 1);
            Shown.due("behind image", Shown.by(run), now);
            Shown.due("the image", Shown.behind(run, "restore(" + k + ")"), now);
            Shown.due("the other image", Shown.behind(run, "restore(" + (1 - k) + ")"), other);
        }
        // Of an object that has kept none: which are kept is all that is shown.
        Run run = Run.of("tell(0, 0, 0, 1, 5)");
        Map<String, String> before = Shown.by(run);
        run.due("image(1)", 1);
        Shown.due("behind the first image", Shown.by(run), before, "count(*): 0 1 1 0 0 0 0 1 0 2");
        run.due("restore(0)", -3).due("image(0)", 1);
        Shown.due("behind the second image", Shown.by(run), before, "count(*): 0 1 1 0 0 0 0 1 0 3");
        changes(eachFate(), "image(2)", -2);
        changes(eachFate(), "image(-1)", -2);
    }

    private static void promise18Restore() {
        for (int k = 0; k < 2; k++) {
            Run kept = eachFate().does("image(" + k + ")");
            Map<String, String> then = Shown.by(kept);
            Map<String, String> other = Shown.behind(kept, "restore(" + (1 - k) + ")");
            Run run = kept.does("back(1)", "back(3)", "rule(0, 5)", "rule(5, 0)", "line(1, 9)", "pass(30)", "tell(0, 3, 1, 2, 50)");
            for (int time = 0; time < 2; time++) {
                run.due("restore(" + k + ")", 1);
                Shown.due("behind restore", Shown.by(run), then);
                Shown.due("the other image behind restore", Shown.behind(run, "restore(" + (1 - k) + ")"), other);
                run.due("tell(0, 3, 2, 1, 4)", 4).placed(4, "0 3 20 4 -6").due("back(1)", 11).due("pass(5)", 5);
            }
        }
        changes(eachFate(), "restore(2)", -2);
        changes(eachFate(), "restore(-1)", -2);
        Run.of("tell(0, 0, 0, 1, 5)", "image(1)", "pass(3)").refused("restore(0)", -3).due("restore(1)", 1).due("count(0)", 0);
    }
}
