import java.util.Arrays;

/** Promises 5 to 8: tell, with how a BURST is PLACED, would, back, burst. */
public final class BurstsTest {
    private static final int MIN = Integer.MIN_VALUE;
    private static final int MAX = Integer.MAX_VALUE;

    public static void main(String[] args) {
        tellAtItsBounds();
        tellAndWouldRefuse();
        tellIsFullAtFortyEight();
        allOnOneColour();
        reachBoundsTheColours();
        noColourBeyondTheLast();
        leastGapThenNearest();
        gapIsCountedFromNow();
        touchingIsNoClash();
        outsAreApart();
        wayZeroLeavesVoids();
        delayedByTheShortestLine();
        delayedPastABusyLine();
        delayedOnlyWhereAColourIsFree();
        linesOfTheLeastAndGreatestLength();
        lineTakesFromBothOuts();
        delayedColourHasTheLeastGap();
        wayZeroStillLetsALineBeFilled();
        cutIsTheLongestFirstPiece();
        cutLiesInTheSpan();
        cutTakesTheNearestColour();
        cutNeedsLeast();
        cutWithWayZero();
        wouldChangesNothing();
        backFreesWhatWasBooked();
        backRefuses();
        burstTellsAll();
        burstRefuses();
        Check.end();
    }

    private static LightBursts narrow() {
        LightBursts x = new LightBursts();
        x.rule(0, 0);
        return x;
    }

    private static LightBursts withOne() {
        LightBursts x = narrow();
        x.tell(0, 0, 0, 1, 8);
        return x;
    }

    /** Fate, colour, from, ticks, line of a burst. */
    private static void placed(LightBursts x, int burst, String want) {
        Check.row("burst " + burst + " is placed", want, x.burst(burst, 6), x.burst(burst, 7), x.burst(burst, 8),
                x.burst(burst, 9), x.burst(burst, 10));
    }

    private static void tellAtItsBounds() {
        LightBursts x = new LightBursts();
        Check.row("tell", "0 1 2", x.tell(0, 0, 0, 1, 1), x.tell(1, 5, 2, 5, 60), x.tell(1, 0, 0, 1, 1));
        placed(x, 0, "0 0 4 1 -6");
        placed(x, 1, "0 5 36 60 -6");
        placed(x, 2, "0 0 4 1 -6");
    }

    private static void tellAndWouldRefuse() {
        int[][] unknown = {{-1, 0, 0, 1, 1}, {2, 0, 0, 1, 1}, {0, -1, 0, 1, 1}, {0, 6, 0, 1, 1}, {0, 0, -1, 1, 1},
            {0, 0, 3, 1, 1}, {2, 0, 0, 0, 61}, {0, 6, 0, 9, 0}, {0, 0, 3, MAX, MIN}, {MIN, MAX, MIN, MAX, MIN}};
        int[][] outside = {{0, 0, 0, 0, 1}, {0, 0, 0, 6, 1}, {0, 0, 0, 1, 0}, {0, 0, 0, 1, 61}, {0, 0, 0, -1, -1},
            {0, 0, 0, MAX, 1}, {0, 0, 0, 1, MIN}};
        for (int[] p : unknown) {
            refusedBoth(p, -1);
        }
        for (int[] p : outside) {
            refusedBoth(p, -2);
        }
    }

    private static void refusedBoth(int[] p, int want) {
        String told = Arrays.toString(p);
        Check.refused(withOne(), "tell" + told, want, y -> y.tell(p[0], p[1], p[2], p[3], p[4]));
        Check.refused(withOne(), "would" + told, want, y -> y.would(p[0], p[1], p[2], p[3], p[4]));
    }

    private static void tellIsFullAtFortyEight() {
        LightBursts x = narrow();
        for (int burst = 0; burst < 48; burst++) {
            Check.due("tell", x.tell(0, 0, 0, 1, 10), burst);
        }
        x.back(47);
        Check.due("tell the 49th", x.tell(0, 0, 0, 1, 10), -4);
        Check.row("tell the 49th, wrong", "-1 -2", x.tell(0, 6, 0, 1, 10), x.tell(0, 0, 0, 6, 10));
        Check.row("nothing was told", "48 1 46 1", x.count(1), x.count(2), x.count(5), x.count(6));
        Check.row("would still answers", "3 0", x.would(0, 0, 0, 1, 10), x.would(1, 0, 0, 1, 10));
    }

    /** Every other TICK from 4 on is booked, 48 in all: the rows of the class are full. */
    private static void allOnOneColour() {
        LightBursts x = narrow();
        for (int burst = 0; burst < 48; burst++) {
            x.tell(0, 0, 0, 1, 1);
            x.pass(2);
        }
        Check.row("48 bookings", "48 98 47 -6 48 99 3", x.count(7), x.booking(0, 0, 47, 0), x.booking(0, 0, 47, 2),
                x.booking(0, 0, 48, 0), x.busy(0, 0, 0, 200), x.next(0, 0, 3, 2), x.next(0, 0, 3, 1));
        Check.row("the last void", "97 1 -6", x.hole(0, 0, 0, 0), x.hole(0, 0, 0, 1), x.hole(0, 0, 1, 0));
        x.rule(1, 1);
        Check.row("would", "0 2 3", x.would(0, 0, 0, 1, 1), x.would(0, 0, 0, 1, 9), x.would(0, 0, 0, 1, 2));
    }

    private static void reachBoundsTheColours() {
        LightBursts x = new LightBursts();
        x.rule(0, 1);
        for (int burst = 0; burst < 4; burst++) {
            x.tell(0, 3, 0, 1, 5);
        }
        Check.row("colours", "3 2 4 -6", x.burst(0, 7), x.burst(1, 7), x.burst(2, 7), x.burst(3, 7));
        x.rule(0, 2);
        x.tell(0, 3, 0, 1, 5);
        x.tell(0, 0, 0, 1, 5);
        Check.row("farther", "1 0", x.burst(4, 7), x.burst(5, 7));
    }

    private static void noColourBeyondTheLast() {
        for (int colour = 0; colour < 6; colour++) {
            LightBursts x = new LightBursts();
            x.line(0, 3);
            for (int burst = 0; burst < 6; burst++) {
                x.tell(1, colour, 0, 1, 9);
            }
            Check.row("all are busy", "0 3", x.free(1, 4, 9), x.would(1, colour, 0, 1, 4));
        }
    }

    /** A colour on which light has just gone is taken ahead of a nearer one. */
    private static void leastGapThenNearest() {
        LightBursts x = new LightBursts();
        x.rule(0, 0);
        x.tell(0, 5, 0, 1, 4);
        x.tell(0, 1, 0, 1, 3);
        x.rule(0, 5);
        x.tell(0, 2, 0, 2, 4);
        placed(x, 2, "0 5 8 4 -6");
        x.tell(0, 2, 0, 2, 4);
        placed(x, 3, "0 1 8 4 -6");
        x.tell(0, 2, 0, 2, 4);
        placed(x, 4, "0 2 8 4 -6");
        LightBursts y = new LightBursts();
        y.rule(0, 0);
        y.tell(0, 1, 0, 1, 4);
        y.tell(0, 3, 0, 1, 4);
        y.tell(0, 4, 0, 1, 4);
        y.rule(0, 5);
        y.tell(0, 2, 0, 2, 4);
        placed(y, 3, "0 1 8 4 -6");
    }

    /** What has ended before NOW makes no GAP less. */
    private static void gapIsCountedFromNow() {
        LightBursts x = narrow();
        x.tell(0, 4, 0, 1, 4);
        x.pass(10);
        x.rule(0, 5);
        x.tell(0, 2, 0, 1, 4);
        placed(x, 1, "0 2 14 4 -6");
        LightBursts y = narrow();
        y.tell(0, 4, 0, 1, 7);
        y.pass(10);
        y.rule(0, 5);
        y.tell(0, 2, 0, 1, 4);
        placed(y, 1, "0 4 14 4 -6");
    }

    private static void touchingIsNoClash() {
        LightBursts x = narrow();
        x.tell(0, 0, 0, 2, 4);
        Check.row("before and behind", "0 0 2 2", x.would(0, 0, 0, 1, 4), x.would(0, 0, 0, 3, 4), x.would(0, 0, 0, 1, 5),
                x.would(0, 0, 0, 2, 8));
        x.tell(0, 0, 0, 3, 4);
        x.tell(0, 0, 0, 1, 4);
        Check.row("in order", "4 8 12", x.booking(0, 0, 0, 0), x.booking(0, 0, 1, 0), x.booking(0, 0, 2, 0));
    }

    private static void outsAreApart() {
        LightBursts x = narrow();
        x.tell(0, 2, 0, 1, 9);
        x.tell(1, 2, 0, 1, 9);
        placed(x, 1, "0 2 4 9 -6");
    }

    private static void wayZeroLeavesVoids() {
        LightBursts x = narrow();
        x.rule(5, 0);
        x.tell(0, 0, 2, 1, 10);
        Check.row("in the void, touching, behind", "3 0 0", x.would(0, 0, 0, 1, 3), x.would(0, 0, 2, 4, 3), x.would(1, 0, 0, 1, 3));
        x.rule(1, 15);
        Check.due("at the end", x.would(0, 0, 0, 2, 5), 0);
        x.rule(1, 14);
        Check.due("two ticks ahead of the end", x.would(0, 0, 0, 2, 2), 3);
        x.rule(5, 1);
        x.rule(1, 4);
        Check.due("in the void, with way 1", x.would(0, 0, 0, 1, 3), 0);
    }

    private static void delayedByTheShortestLine() {
        LightBursts x = narrow();
        x.line(0, 9);
        x.line(1, 6);
        x.line(2, 6);
        x.tell(0, 3, 0, 1, 4);
        x.tell(0, 3, 0, 1, 4);
        placed(x, 1, "1 3 10 4 1");
        Check.row("held", "4 4 1 -6", x.held(1, 0, 0), x.held(1, 0, 1), x.held(1, 0, 2), x.held(1, 1, 0));
        x.line(2, 0);
        // Line 1 is busy, and behind line 0 the burst would clash with what comes from line 1.
        x.tell(0, 3, 0, 1, 4);
        placed(x, 2, "3 -6 -6 0 -6");
        x.line(0, 10);
        x.tell(0, 3, 0, 1, 4);
        placed(x, 3, "1 3 14 4 0");
    }

    private static void delayedPastABusyLine() {
        LightBursts x = narrow();
        x.line(0, 4);
        x.line(2, 8);
        x.tell(0, 0, 0, 1, 4);
        x.tell(0, 0, 0, 1, 4);
        x.tell(0, 0, 0, 1, 4);
        placed(x, 1, "1 0 8 4 0");
        placed(x, 2, "1 0 12 4 2");
        Check.due("both lines are busy", x.would(0, 0, 0, 1, 1), 3);
    }

    private static void delayedOnlyWhereAColourIsFree() {
        LightBursts x = narrow();
        x.line(0, 3);
        x.tell(0, 0, 0, 1, 5);
        x.tell(0, 0, 0, 1, 2);
        placed(x, 1, "3 -6 -6 0 -6");
        x.line(1, 5);
        x.tell(0, 0, 0, 1, 2);
        placed(x, 2, "1 0 9 2 1");
    }

    private static void linesOfTheLeastAndGreatestLength() {
        LightBursts x = narrow();
        x.line(0, 60);
        x.line(1, 1);
        x.tell(0, 0, 0, 1, 1);
        x.tell(0, 0, 0, 1, 1);
        x.tell(0, 0, 0, 1, 1);
        placed(x, 1, "1 0 5 1 1");
        placed(x, 2, "1 0 64 1 0");
    }

    private static void lineTakesFromBothOuts() {
        LightBursts x = narrow();
        x.line(0, 10);
        x.tell(0, 0, 0, 1, 5);
        x.tell(1, 0, 0, 1, 5);
        x.tell(0, 0, 0, 1, 5);
        x.tell(1, 0, 0, 1, 5);
        placed(x, 2, "1 0 14 5 0");
        placed(x, 3, "3 -6 -6 0 -6");
    }

    private static void delayedColourHasTheLeastGap() {
        LightBursts x = narrow();
        x.tell(0, 1, 0, 1, 10);
        x.tell(0, 2, 0, 1, 6);
        x.tell(0, 3, 0, 1, 9);
        x.line(0, 10);
        x.rule(0, 1);
        x.tell(0, 2, 0, 1, 5);
        placed(x, 3, "1 1 14 5 0");
        x.tell(0, 2, 0, 1, 5);
        placed(x, 4, "3 -6 -6 0 -6");
    }

    private static void wayZeroStillLetsALineBeFilled() {
        LightBursts x = narrow();
        x.line(0, 40);
        x.tell(0, 0, 1, 1, 5);
        x.tell(0, 0, 1, 1, 5);
        placed(x, 1, "1 0 52 5 0");
        x.rule(5, 0);
        x.line(1, 60);
        x.tell(1, 0, 0, 1, 5);
        x.tell(1, 0, 0, 1, 5);
        placed(x, 3, "1 0 44 5 0");
        Check.row("held in order", "4 12", x.held(0, 0, 0), x.held(0, 1, 0));
        x.tell(0, 0, 0, 1, 5);
        placed(x, 4, "1 0 64 5 1");
    }

    /** Bookings on 8 to 11, 16 to 17, 22 to 25: of 4 to 25 the pieces are 4, 4 and 4 long. */
    private static void cutIsTheLongestFirstPiece() {
        LightBursts x = narrow();
        x.rule(1, 2);
        x.tell(0, 0, 0, 4, 4);
        x.rule(1, 4);
        x.tell(0, 0, 0, 4, 2);
        x.rule(1, 11);
        x.tell(0, 0, 0, 2, 4);
        x.rule(1, 4);
        x.image(0);
        x.tell(0, 0, 0, 1, 22);
        placed(x, 3, "2 0 4 4 -6");
        x.restore(0);
        x.rule(1, 5);
        x.tell(0, 0, 0, 1, 22);
        placed(x, 3, "2 0 12 4 -6");
        x.restore(0);
        x.tell(0, 0, 0, 1, 27);
        placed(x, 3, "2 0 26 5 -6");
        x.restore(0);
        x.rule(1, 9);
        x.tell(0, 0, 0, 1, 6);
        placed(x, 3, "2 0 12 3 -6");
    }

    /** There is room before and behind 8 to 19, but none within. */
    private static void cutLiesInTheSpan() {
        LightBursts x = narrow();
        x.rule(3, 1);
        x.tell(0, 0, 0, 1, 1);
        x.tell(0, 0, 0, 2, 12);
        x.tell(0, 0, 0, 2, 12);
        placed(x, 2, "3 -6 -6 0 -6");
        x.tell(0, 0, 0, 2, 13);
        placed(x, 3, "2 0 20 1 -6");
    }

    private static void cutTakesTheNearestColour() {
        LightBursts x = narrow();
        for (int colour = 0; colour < 6; colour++) {
            x.tell(0, colour, 0, 1, colour == 4 ? 7 : 8);
        }
        x.rule(0, 1);
        x.tell(0, 2, 0, 1, 20);
        placed(x, 6, "2 2 12 12 -6");
        x.tell(0, 2, 0, 1, 20);
        placed(x, 7, "2 1 12 12 -6");
        x.tell(0, 2, 0, 1, 20);
        placed(x, 8, "2 3 12 12 -6");
        x.rule(0, 5);
        x.tell(0, 0, 0, 1, 20);
        placed(x, 9, "2 4 11 13 -6");
        x.tell(0, 0, 0, 1, 20);
        placed(x, 10, "2 0 12 12 -6");
    }

    private static void cutNeedsLeast() {
        LightBursts x = narrow();
        x.tell(0, 0, 0, 1, 8);
        Check.row("3 of 11, 2 of 10", "2 3", x.would(0, 0, 0, 1, 11), x.would(0, 0, 0, 1, 10));
        x.rule(3, 12);
        Check.row("12 of 20, 11 of 19", "2 3", x.would(0, 0, 0, 1, 20), x.would(0, 0, 0, 1, 19));
        x.rule(3, 1);
        Check.row("1 of 9, 0 of 8", "2 3", x.would(0, 0, 0, 1, 9), x.would(0, 0, 0, 1, 8));
        x.rule(4, 0);
        Check.row("no cuts", "3", x.would(0, 0, 0, 1, 60));
        x.rule(3, 60);
        Check.row("least is for cuts alone", "0", x.would(0, 0, 0, 3, 1));
        x.rule(4, 1);
        x.tell(0, 0, 0, 1, 60);
        placed(x, 1, "3 -6 -6 0 -6");
    }

    private static void cutWithWayZero() {
        LightBursts x = narrow();
        x.tell(0, 0, 2, 1, 5);
        x.rule(5, 0);
        x.tell(0, 0, 0, 1, 30);
        placed(x, 1, "2 0 25 9 -6");
        x.tell(0, 0, 0, 1, 30);
        placed(x, 2, "3 -6 -6 0 -6");
        x.back(1);
        x.rule(5, 1);
        x.tell(0, 0, 0, 1, 30);
        placed(x, 3, "2 0 4 16 -6");
    }

    private static void wouldChangesNothing() {
        LightBursts x = narrow();
        x.line(0, 10);
        x.tell(0, 0, 0, 1, 8);
        String before = Check.everything(x);
        Check.row("would", "0 1 0", x.would(0, 1, 0, 1, 8), x.would(0, 0, 0, 1, 8), x.would(0, 0, 1, 1, 8));
        Check.due("would changes nothing: everything", Check.everything(x), before);
        x.tell(0, 0, 0, 1, 8);
        x.rule(3, 2);
        before = Check.everything(x);
        Check.row("would", "2 3", x.would(0, 0, 0, 1, 12), x.would(0, 0, 0, 1, 8));
        Check.due("would changes nothing: everything", Check.everything(x), before);
    }

    private static void backFreesWhatWasBooked() {
        LightBursts x = narrow();
        x.line(0, 10);
        x.rule(3, 2);
        x.tell(0, 0, 0, 1, 8);
        x.tell(0, 0, 0, 1, 9);
        x.tell(0, 0, 0, 1, 12);
        x.tell(0, 0, 0, 1, 8);
        Check.row("fates", "0 1 2 3", x.burst(0, 6), x.burst(1, 6), x.burst(2, 6), x.burst(3, 6));
        Check.row("back", "9 0", x.back(1), x.back(3));
        placed(x, 1, "4 -6 -6 0 -6");
        placed(x, 3, "4 -6 -6 0 -6");
        Check.row("what was told stays", "0 0 0 1 9 4", x.burst(1, 0), x.burst(1, 1), x.burst(1, 2), x.burst(1, 3),
                x.burst(1, 4), x.burst(1, 5));
        Check.row("the line is free", "-6 0", x.held(0, 0, 0), x.count(8));
        Check.due("back of what was cut", x.back(2), 2);
        Check.row("sent", "8 -6 63 0", x.back(0), x.booking(0, 0, 0, 0), x.free(0, 0, 100), x.count(7));
        Check.due("told again, it has a number of its own", x.tell(0, 0, 0, 1, 8), 4);
        placed(x, 4, "0 0 4 8 -6");
    }

    private static void backRefuses() {
        for (int burst : new int[] {-1, 1, 47, 48, MIN, MAX}) {
            Check.refused(withOne(), "back(" + burst + ")", -1, y -> y.back(burst));
        }
        LightBursts x = withOne();
        x.tell(0, 0, 0, 1, 8);
        x.pass(3);
        Check.due("back one tick before", x.back(0), 8);
        Check.refused(x, "back twice", -5, y -> y.back(0));
        x.pass(1);
        Check.refused(x, "back twice as it comes, STATE ahead of NO", -3, y -> y.back(0));
        Check.refused(x, "back of a lost one as it comes", -3, y -> y.back(1));
        LightBursts z = withOne();
        z.pass(4);
        Check.refused(z, "back as it comes", -3, y -> y.back(0));
        z.pass(100);
        Check.refused(z, "back of what has gone", -3, y -> y.back(0));
    }

    private static void burstTellsAll() {
        LightBursts x = narrow();
        x.line(2, 11);
        x.pass(2);
        x.tell(1, 4, 1, 3, 7);
        x.tell(1, 4, 1, 3, 6);
        Check.row("burst 1", "1 4 1 3 6 22 1 4 33 6 2", x.burst(1, 0), x.burst(1, 1), x.burst(1, 2), x.burst(1, 3),
                x.burst(1, 4), x.burst(1, 5), x.burst(1, 6), x.burst(1, 7), x.burst(1, 8), x.burst(1, 9), x.burst(1, 10));
        x.rule(0, 5);
        x.tell(1, 4, 1, 3, 6);
        Check.row("burst 2, turned into another colour", "4 3", x.burst(2, 1), x.burst(2, 7));
    }

    private static void burstRefuses() {
        for (int burst : new int[] {-1, 1, 48, MIN, MAX}) {
            Check.refused(withOne(), "burst(" + burst + ", 0)", -1, y -> y.burst(burst, 0));
            Check.refused(withOne(), "burst(" + burst + ", 11)", -1, y -> y.burst(burst, 11));
        }
        for (int what : new int[] {-1, 11, MIN, MAX}) {
            Check.refused(withOne(), "burst(0, " + what + ")", -2, y -> y.burst(0, what));
        }
    }
}
