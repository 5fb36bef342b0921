/** Promises 1 to 4: a new object, rule, line, pass. */
public final class RulesTest {
    private static final int[] LEAST = {0, 1, 0, 1, 0, 0};
    private static final int[] MOST = {5, 20, 20, 60, 1, 1};
    private static final int[] FIRST = {5, 4, 8, 3, 1, 1};

    public static void main(String[] args) {
        newObject();
        newObjectHasNothingBooked();
        objectsAreApart();
        ruleKeepsItsBounds();
        ruleRefuses();
        ruleLeavesBookings();
        rulesAreReadWhenToldAndNotLater();
        lineHasItsLength();
        lineRefuses();
        lineRefusesWhileItHolds();
        passMovesNow();
        passRefuses();
        Check.end();
    }

    private static void newObject() {
        LightBursts x = new LightBursts();
        Check.row("new: counts", "0 0 0 0 0 0 0 0 0 0", x.count(0), x.count(1), x.count(2), x.count(3), x.count(4),
                x.count(5), x.count(6), x.count(7), x.count(8), x.count(9));
        Check.row("new: rules", "5 4 8 3 1 1", x.count(10), x.count(11), x.count(12), x.count(13), x.count(14), x.count(15));
        Check.row("new: lengths", "0 0 0", x.count(20), x.count(21), x.count(22));
        Check.row("new: no image", "-3 -3", x.restore(0), x.restore(1));
        Check.row("new: no burst", "-1 -1", x.burst(0, 0), x.back(0));
    }

    private static void newObjectHasNothingBooked() {
        LightBursts x = new LightBursts();
        for (int out = 0; out < 2; out++) {
            Check.due("new: free", x.free(out, 0, 2000), 63);
            for (int colour = 0; colour < 6; colour++) {
                Check.row("new: colour " + colour, "-6 -6 0 0", x.booking(out, colour, 0, 0), x.hole(out, colour, 0, 0),
                        x.busy(out, colour, 0, 2000), x.next(out, colour, 0, 2000));
            }
        }
        for (int k = 0; k < 3; k++) {
            Check.row("new: line and tally " + k, "-6 0 0 0 0 -6 -6", x.held(k, 0, 0), x.tally(k, 0), x.tally(k, 1),
                    x.tally(k, 2), x.tally(k, 3), x.tally(k, 4), x.tally(k, 5));
        }
    }

    private static void objectsAreApart() {
        LightBursts x = new LightBursts();
        LightBursts y = new LightBursts();
        x.rule(0, 0);
        x.line(0, 7);
        x.pass(9);
        x.tell(0, 0, 0, 1, 5);
        x.image(0);
        Check.due("another object: everything", Check.everything(y), Check.everything(new LightBursts()));
        Check.due("another object: rule 0", new LightBursts().count(10), 5);
    }

    private static void ruleKeepsItsBounds() {
        for (int what = 0; what < 6; what++) {
            LightBursts x = new LightBursts();
            Check.row("rule " + what, FIRST[what] + " " + LEAST[what] + " " + MOST[what], x.rule(what, LEAST[what]),
                    x.rule(what, MOST[what]), x.rule(what, MOST[what]));
            for (int other = 0; other < 6; other++) {
                Check.due("rule " + other + " after " + what, x.count(10 + other), other == what ? MOST[what] : FIRST[other]);
            }
        }
    }

    private static void ruleRefuses() {
        for (int what = 0; what < 6; what++) {
            int rule = what;
            for (int n : new int[] {LEAST[what] - 1, MOST[what] + 1, Integer.MIN_VALUE, Integer.MAX_VALUE}) {
                Check.refused(new LightBursts(), "rule(" + rule + ", " + n + ")", -2, y -> y.rule(rule, n));
            }
        }
        for (int what : new int[] {-1, 6, Integer.MIN_VALUE, Integer.MAX_VALUE}) {
            Check.refused(new LightBursts(), "rule(" + what + ", 1)", -2, y -> y.rule(what, 1));
        }
    }

    private static void ruleLeavesBookings() {
        LightBursts x = new LightBursts();
        x.tell(0, 1, 2, 1, 10);
        x.tell(0, 1, 0, 1, 5);
        Check.row("booked before the rules change", "4 20", x.booking(0, 1, 0, 0), x.booking(0, 1, 1, 0));
        x.rule(0, 0);
        x.rule(1, 20);
        x.rule(2, 0);
        x.rule(3, 60);
        x.rule(4, 0);
        x.rule(5, 0);
        Check.row("booked after", "4 5 1 20 10 0", x.booking(0, 1, 0, 0), x.booking(0, 1, 0, 1), x.booking(0, 1, 0, 2),
                x.booking(0, 1, 1, 0), x.booking(0, 1, 1, 1), x.booking(0, 1, 1, 2));
        Check.row("bursts after", "20 4", x.burst(0, 5), x.burst(1, 5));
    }

    private static void rulesAreReadWhenToldAndNotLater() {
        LightBursts x = new LightBursts();
        x.pass(7);
        x.rule(1, 20);
        x.rule(2, 20);
        x.tell(0, 0, 2, 5, 1);
        x.rule(1, 1);
        x.rule(2, 0);
        x.tell(0, 0, 2, 5, 1);
        x.pass(100);
        Check.row("comes", "147 12", x.burst(0, 5), x.burst(1, 5));
    }

    private static void lineHasItsLength() {
        LightBursts x = new LightBursts();
        for (int line = 0; line < 3; line++) {
            Check.row("line " + line, "0 60 1 1 0", x.line(line, 60), x.line(line, 1), x.line(line, 1), x.line(line, 0),
                    x.line(line, 10 + line));
        }
        Check.row("lengths", "10 11 12", x.count(20), x.count(21), x.count(22));
    }

    private static LightBursts withLine() {
        LightBursts x = new LightBursts();
        x.line(1, 5);
        return x;
    }

    private static void lineRefuses() {
        for (int line : new int[] {-1, 3, Integer.MIN_VALUE, Integer.MAX_VALUE}) {
            Check.refused(withLine(), "line(" + line + ", 1)", -1, y -> y.line(line, 1));
            Check.refused(withLine(), "line(" + line + ", 61)", -1, y -> y.line(line, 61));
        }
        for (int length : new int[] {-1, 61, Integer.MIN_VALUE, Integer.MAX_VALUE}) {
            Check.refused(withLine(), "line(1, " + length + ")", -2, y -> y.line(1, length));
        }
    }

    /** One BURST sent on TICKS 4 to 13, another held by LINE 1 on TICKS 4 to 8. */
    private static void lineRefusesWhileItHolds() {
        LightBursts x = new LightBursts();
        x.rule(0, 0);
        x.line(1, 20);
        x.tell(0, 0, 0, 1, 10);
        x.tell(0, 0, 0, 1, 5);
        Check.row("held", "1 4 5", x.burst(1, 10), x.held(1, 0, 0), x.held(1, 0, 1));
        Check.refused(x, "line(1, 20), the same", -5, y -> y.line(1, 20));
        Check.refused(x, "line(1, 0)", -5, y -> y.line(1, 0));
        Check.refused(x, "line(1, 61), OUTSIDE ahead of NO", -2, y -> y.line(1, 61));
        Check.due("another line", x.line(0, 3), 0);
        x.pass(8);
        Check.refused(x, "line(1, 3) one tick before the end", -5, y -> y.line(1, 3));
        x.pass(1);
        Check.due("line(1, 3) at the end", x.line(1, 3), 20);
        Check.row("what was booked stays", "4 5 1 24", x.held(1, 0, 0), x.held(1, 0, 1), x.held(1, 0, 2), x.burst(1, 8));
        LightBursts z = new LightBursts();
        z.rule(0, 0);
        z.line(1, 20);
        z.tell(0, 0, 0, 1, 10);
        z.tell(0, 0, 0, 1, 5);
        z.back(1);
        Check.due("line after the burst was taken back", z.line(1, 4), 20);
    }

    private static void passMovesNow() {
        LightBursts x = new LightBursts();
        Check.row("pass", "1 201 203", x.pass(1), x.pass(200), x.pass(2));
        Check.due("now", x.count(0), 203);
        x.tell(1, 0, 1, 2, 3);
        Check.due("comes from now on", x.burst(0, 5), 203 + 8 + 8);
    }

    private static void passRefuses() {
        LightBursts x = new LightBursts();
        x.pass(5);
        for (int ticks : new int[] {0, 201, -1, Integer.MIN_VALUE, Integer.MAX_VALUE}) {
            Check.refused(x, "pass(" + ticks + ")", -2, y -> y.pass(ticks));
        }
    }
}
