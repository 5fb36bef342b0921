import java.util.Comparator;
import java.util.List;
import java.util.stream.Collectors;
import java.util.stream.IntStream;

/** The boundaries that 'Terms' names under 2: how a BURST is PLACED. */
public final class BoundsPlacingTest {
    public static void main(String[] args) {
        placedAsAllIs();
        coloursInReach();
        freeWithWayOne();
        freeWithWayZero();
        gapBeforeATick();
        nearestOfColours();
        sentAheadOfAllElse();
        sentWithLeastGap();
        delayedByLinesInOrder();
        delayedByLengthAboveZero();
        delayedByLineThatHoldsNothing();
        delayedWhereAColourIsFree();
        delayedIsBookedTwice();
        delayedWithLeastGap();
        delayedAheadOfCut();
        cutIfCutsIsOne();
        pieceIsLongest();
        pieceIsFirstOfAsLong();
        pieceLiesInTheSpan();
        pieceWithWayZero();
        pieceOnNearestColour();
        pieceHasLeastTicks();
        lostIsBookedNowhere();
        fates();
        Check.end();
    }

    private static final String LOST = "3 -6 -6 0 -6";

    /** REACH is 0, LEAST is 1: a COLOUR stands for itself, and every PIECE is carried. */
    private static Run alone() {
        return Run.of("rule(0, 0)", "rule(3, 1)");
    }

    /** All six COLOURS of OUT 0 are booked on TICKS 4 to 13, nothing is CUT. */
    private static Run crowded() {
        return Run.of("rule(4, 0)").does(6, "tell(0, 0, 0, 1, 10)").due("free(0, 4, 10)", 0);
    }

    private static void placedAsAllIs() {
        Check.says("When a BURST is told it is PLACED, as NOW, RULES and BOOKINGS are");
        // What comes to be free later, or is allowed later, is nothing to what has been told.
        Scenes.narrow(5, 5).tells(0, 0, 5, 5).placed(1, LOST).does("back(0)", "rule(0, 5)", "rule(4, 1)", "line(0, 9)")
                .placed(1, LOST).tells(0, 0, 5, 5).placed(2, "0 0 5 5 -6");
        Scenes.narrow(5, 5).does("line(0, 9)").tells(0, 0, 5, 5).placed(1, "1 0 14 5 0").does("back(0)").placed(1, "1 0 14 5 0");
        alone().tells(0, 0, 5, 5).tells(0, 0, 5, 9).placed(1, "2 0 10 4 -6").does("rule(3, 60)", "rule(4, 0)", "back(0)", "pass(5)")
                .placed(1, "2 0 10 4 -6");
    }

    private static List<Integer> inReach(int colour, int reach) {
        return IntStream.range(0, 6).filter(c -> Math.abs(c - colour) <= reach).boxed()
                .sorted(Comparator.<Integer>comparingInt(c -> Math.abs(c - colour)).thenComparing(c -> c)).toList();
    }

    private static void coloursInReach() {
        Check.says("COLOURS are those of its OUT whose number is no more than REACH away from its own.");
        for (int reach = 0; reach <= 5; reach++) {
            for (int colour = 0; colour < 6; colour++) {
                for (int out = 0; out < 2; out++) {
                    filledInOrder(out, colour, reach);
                }
            }
        }
    }

    /** As many BURSTS as there are COLOURS in reach are SENT, the NEAREST first; one more is LOST, with CUTS too. */
    private static void filledInOrder(int out, int colour, int reach) {
        String tell = "(" + out + ", " + colour + ", 0, 1, 9)";
        Run run = Run.of("rule(0, " + reach + ")");
        List<Integer> order = inReach(colour, reach);
        for (int burst = 0; burst < order.size(); burst++) {
            run.due("would" + tell, 0).does("tell" + tell).placed(burst, "0 " + order.get(burst) + " 4 9 -6");
        }
        int set = order.stream().mapToInt(c -> 1 << c).sum();
        run.due("would" + tell, 3).due("free(" + out + ", 4, 9)", 63 - set).due("free(" + (1 - out) + ", 4, 9)", 63);
        // Through a LINE and for a PIECE the same COLOURS are in reach.
        run.again().does("line(0, 8)").due("would" + tell, 3).does("line(0, 9)").due("would" + tell, 1);
        run.again().does("rule(3, 1)", "tell(" + out + ", " + colour + ", 0, 1, 10)").placed(order.size(), "2 " + order.get(0) + " 13 1 -6");
    }

    /** Beside a BOOKING on 10 to 19, and another on 40 to 44. */
    private static void freeWithWayOne() {
        Check.says("A COLOUR is FREE for a SPAN, if no BOOKING on it CLASHES with that");
        Run run = Scenes.narrow(10, 10).tells(0, 0, 40, 5);
        run.would(0, 0, 9, 1, 0).would(0, 0, 1, 9, 0).would(0, 0, 1, 10, 3).would(0, 0, 9, 2, 3);
        run.would(0, 0, 10, 1, 3).would(0, 0, 19, 1, 3).would(0, 0, 19, 2, 3).would(0, 0, 9, 60, 3);
        run.would(0, 0, 20, 20, 0).would(0, 0, 20, 21, 3).would(0, 0, 39, 1, 0).would(0, 0, 44, 1, 3).would(0, 0, 45, 60, 0);
        // BOOKINGS on another COLOUR, or on the same of the other OUT, are nothing to it.
        run.would(0, 1, 10, 40, 0).would(1, 0, 10, 40, 0);
    }

    private static void freeWithWayZero() {
        Check.says("and, if WAY is 0, none on it ENDS behind where the SPAN begins.");
        Run run = Scenes.narrow(10, 10).does("rule(5, 0)");
        run.would(0, 0, 1, 1, 3).would(0, 0, 9, 1, 3).would(0, 0, 10, 1, 3).would(0, 0, 19, 1, 3).would(0, 0, 20, 1, 0)
                .would(0, 0, 20, 60, 0).would(0, 1, 1, 1, 0).would(1, 0, 1, 1, 0);
        run.tells(0, 0, 40, 5).would(0, 0, 20, 1, 3).would(0, 0, 39, 1, 3).would(0, 0, 44, 1, 3).would(0, 0, 45, 1, 0);
        run.does("back(1)").would(0, 0, 20, 1, 0).does("back(0)").would(0, 0, 1, 1, 0);
        // NOW behind the END, or at it, changes nothing: what has ENDED is in nobody's way.
        Scenes.narrow(5, 5).does("rule(5, 0)", "pass(8)").would(0, 0, 9, 1, 3).would(0, 0, 10, 1, 0).does("pass(2)")
                .would(0, 0, 11, 1, 0);
    }

    private static void gapBeforeATick() {
        Check.says("The GAP of a COLOUR before a TICK a: a, less the greatest of NOW and all ENDS of BOOKINGS on it that are no "
                + "greater than a.");
        // One ENDS at the TICK itself: no GAP is less. One that ENDS a TICK before that has the next.
        twoGaps(10, 9).placed(2, "0 0 10 4 -6").tells(0, 3, 10, 4).placed(3, "0 5 10 4 -6");
        twoGaps(9, 10).placed(2, "0 5 10 4 -6").tells(0, 3, 10, 4).placed(3, "0 0 10 4 -6");
        // An END behind the TICK is not one of those: the GAP of COLOUR 3 is 10, from NOW on.
        alone().tells(0, 3, 20, 9).tells(0, 0, 1, 1).does("rule(0, 5)").tells(0, 3, 10, 4).placed(2, "0 0 10 4 -6");
        alone().tells(0, 3, 14, 9).tells(0, 0, 1, 1).does("rule(0, 5)").tells(0, 3, 10, 4).placed(2, "0 0 10 4 -6");
        // Of several ENDS the greatest counts, whichever was told last.
        alone().tells(0, 0, 8, 1).tells(0, 0, 2, 1).tells(0, 0, 20, 5).tells(0, 2, 7, 1).does("rule(0, 5)").tells(0, 2, 10, 4)
                .placed(4, "0 0 10 4 -6");
        gapFromNow();
    }

    /** COLOURS 0 and 5 are booked up to an END each, then a BURST of COLOUR 3 COMES at 10. */
    private static Run twoGaps(int endOnZero, int endOnFive) {
        return alone().tells(0, 0, 1, endOnZero - 1).tells(0, 5, 1, endOnFive - 1).does("rule(0, 5)").tells(0, 3, 10, 4);
    }

    /** COLOUR 0 is booked up to before NOW, up to NOW, and for one TICK more; the BURST is of COLOUR 3. */
    private static void gapFromNow() {
        for (int ticks = 5; ticks <= 7; ticks++) {
            alone().tells(0, 0, 4, ticks).does("pass(10)", "rule(0, 5)").tells(0, 3, 14, 4)
                    .placed(1, ticks <= 6 ? "0 3 14 4 -6" : "0 0 14 4 -6");
        }
    }

    private static void nearestOfColours() {
        Check.says("The NEAREST of COLOURS: that whose number is least far away from that of the BURST, of two that are as far "
                + "the lesser one.");
        for (int colour = 0; colour < 6; colour++) {
            for (int one = 0; one < 6; one++) {
                for (int other = one + 1; other < 6; other++) {
                    int nearest = Math.abs(other - colour) < Math.abs(one - colour) ? other : one;
                    // Both are booked right up to where the BURST COMES, the others are not.
                    alone().tells(0, other, 5, 5).tells(0, one, 5, 5).does("rule(0, 5)").tells(0, colour, 10, 4)
                            .placed(2, "0 " + nearest + " 10 4 -6");
                }
            }
        }
    }

    private static void sentAheadOfAllElse() {
        Check.says("It is SENT, if any COLOUR is FREE for its SPAN");
        // One COLOUR of six is FREE, the farthest, and a LINE and a PIECE would do as well.
        Run run = Run.of("line(0, 20)", "rule(0, 0)");
        for (int colour = 0; colour < 5; colour++) {
            run.tells(0, colour, 10, 10);
        }
        run.does("rule(0, 5)").tells(0, 0, 10, 20).placed(5, "0 5 10 20 -6");
        run.does("rule(0, 4)").tells(0, 0, 10, 20).placed(6, "1 0 30 20 0");
    }

    private static void sentWithLeastGap() {
        Check.says("on that whose GAP before its first TICK is least, of such the NEAREST.");
        // GAPS before 20, of COLOURS 0 to 5: 3, 2, 5, 20, 2, 4.
        Run run = alone().tells(0, 0, 10, 7).tells(0, 1, 10, 8).tells(0, 2, 10, 5).tells(0, 4, 10, 8).tells(0, 5, 10, 6);
        run.does("rule(0, 5)", "rule(1, 10)").does(6, "tell(0, 3, 0, 2, 5)").row("burst(*, 7)", "5 6 7 8 9 10", "4 1 0 5 2 3");
    }

    private static void delayedByLinesInOrder() {
        Check.says("Else it is DELAYED by the first LINE, by rising LENGTHS, of like ones by rising numbers");
        int[] lengths = {0, 10, 11, 60};
        for (int a : lengths) {
            for (int b : lengths) {
                for (int c : lengths) {
                    delayedInOrder(a, b, c);
                }
            }
        }
    }

    /** Behind each LINE six COLOURS are FREE, so each takes one BURST, in its turn; then all LINES are busy. */
    private static void delayedInOrder(int... lengths) {
        Run run = crowded();
        for (int line = 0; line < 3; line++) {
            run.does("line(" + line + ", " + lengths[line] + ")");
        }
        List<Integer> order = IntStream.range(0, 3).filter(line -> lengths[line] > 0).boxed()
                .sorted(Comparator.<Integer>comparingInt(line -> lengths[line]).thenComparing(line -> line)).toList();
        run.does(order.size() + 1, "tell(0, 0, 0, 1, 10)");
        String got = IntStream.range(6, 7 + order.size()).mapToObj(burst -> run.ask("burst(" + burst + ", 10)") + "")
                .collect(Collectors.joining(" "));
        String want = order.stream().map(line -> line + " ").collect(Collectors.joining()) + "-6";
        Check.due("lines of lengths " + lengths[0] + ", " + lengths[1] + ", " + lengths[2], got, want);
    }

    private static void delayedByLengthAboveZero() {
        Check.says("that has a LENGTH above 0");
        // Were there a LINE of LENGTH 0, what COMES at 5 could not go on at 5 either; LENGTH 1 is the least that helps.
        Scenes.narrow(5, 1).would(0, 0, 5, 1, 3).does("line(0, 0)", "line(1, 0)", "line(2, 0)").would(0, 0, 5, 1, 3)
                .does("line(2, 1)").tells(0, 0, 5, 1).placed(1, "1 0 6 1 2");
        Scenes.narrow(5, 60).does("line(0, 59)").tells(0, 0, 5, 1).placed(1, LOST).does("line(0, 60)").tells(0, 0, 5, 1)
                .placed(2, "1 0 65 1 0");
    }

    /** LINE 0 holds a BURST of COLOUR 0 on 10 to 13; behind it COLOUR 1 is FREE for all that is asked. */
    private static void delayedByLineThatHoldsNothing() {
        Check.says("and no BOOKING that CLASHES with the SPAN");
        Run run = Scenes.narrow(1, 30).tells(0, 1, 1, 30).does("line(0, 40)").tells(0, 0, 10, 4).placed(2, "1 0 50 4 0");
        run.would(0, 1, 9, 1, 1).would(0, 1, 9, 2, 3).would(0, 1, 5, 5, 1).would(0, 1, 5, 6, 3).would(0, 1, 10, 4, 3);
        run.would(0, 1, 11, 2, 3).would(0, 1, 9, 6, 3).would(0, 1, 13, 1, 3).would(0, 1, 14, 1, 1).would(0, 1, 14, 5, 1);
        // A LINE holds for both OUTS; another LINE, a longer one, is asked next.
        run.tells(1, 1, 1, 30).would(1, 1, 13, 2, 3).would(1, 1, 14, 2, 1);
        run.does("line(2, 45)").tells(0, 1, 13, 2).placed(4, "1 1 58 2 2");
        // WAY 0 is for COLOURS: a LINE may be filled ahead of what it holds.
        run.does("back(4)", "rule(5, 0)", "line(2, 0)").would(0, 1, 9, 1, 1).would(0, 1, 9, 2, 3);
    }

    /** BOOKINGS on 5 to 8 and 13 to 16: there is room for four TICKS between. */
    private static void delayedWhereAColourIsFree() {
        Check.says("and for which any COLOUR is FREE for the SPAN that begins LENGTH later");
        Run run = Scenes.narrow(5, 4).tells(0, 0, 13, 4).does("line(0, 3)").would(0, 0, 5, 4, 3).does("line(0, 5)")
                .would(0, 0, 5, 4, 3).would(0, 0, 5, 3, 1).does("line(0, 4)").would(0, 0, 5, 5, 3).tells(0, 0, 5, 4)
                .placed(2, "1 0 9 4 0");
        run.does("back(2)", "line(0, 11)").would(0, 0, 5, 4, 3).does("line(0, 12)").would(0, 0, 5, 4, 1).would(0, 0, 5, 60, 1);
        // The shorter LINE is passed over where no COLOUR is FREE behind it.
        run.does("line(2, 11)").tells(0, 0, 5, 4).placed(3, "1 0 17 4 0");
        // With WAY 0 the room between is not FREE, behind the last END it is.
        Scenes.narrow(5, 4).tells(0, 0, 13, 4).does("rule(5, 0)", "line(0, 4)").would(0, 0, 5, 4, 3).does("line(0, 11)")
                .would(0, 0, 5, 4, 3).does("line(0, 12)").would(0, 0, 5, 4, 1);
        // Any COLOUR in reach will do, and none that is not.
        crowded().tells(0, 1, 14, 9).does("line(0, 10)", "rule(0, 1)").tells(0, 0, 4, 10).placed(7, "1 0 14 10 0")
                .does("back(7)", "rule(0, 0)").tells(0, 1, 4, 10).placed(8, LOST);
    }

    private static void delayedIsBookedTwice() {
        Check.says("its SPAN is BOOKED on the LINE, and the later one on that COLOUR");
        Scenes.narrow(5, 10).does("line(1, 60)").tells(0, 0, 5, 10).placed(1, "1 0 65 10 1").row("held(1, 0, *)", "0 1 2", "5 10 1")
                .row("booking(0, 0, 1, *)", "0 1 2", "65 10 1").row("busy(0, 0, *, 1)", "64 65 74 75", "0 1 1 0")
                .row("count(*)", "7 8", "2 1").due("burst(1, 5)", 5).due("tally(0, 2)", 20);
    }

    private static void delayedWithLeastGap() {
        Check.says("on that COLOUR whose GAP before that is least, of such the NEAREST.");
        // All COLOURS are busy at 5; GAPS before 25, of COLOURS 0 to 5: 2, 1, 6, 7, 6, 1.
        int[] ticks = {18, 19, 14, 13, 14, 19};
        Run run = Run.of("rule(0, 0)", "rule(4, 0)");
        for (int colour = 0; colour < 6; colour++) {
            run.tells(0, colour, 5, ticks[colour]);
        }
        run.does("line(0, 20)", "line(1, 20)", "line(2, 20)", "rule(0, 5)");
        run.again().does(3, "tell(0, 3, 0, 1, 5)").row("burst(*, 7)", "6 7 8", "1 5 0").row("burst(*, 8)", "6 7 8", "25 25 25");
        run.again().does("rule(0, 1)").does(3, "tell(0, 3, 0, 1, 5)").row("burst(*, 7)", "6 7 8", "2 4 3");
        run.again().does("tell(0, 4, 0, 1, 5)").placed(6, "1 5 25 5 0");
    }

    private static void delayedAheadOfCut() {
        Check.says("Else it is CUT");
        // All but the first TICK could be CUT, and yet it is DELAYED, by the longest LINE.
        Run run = alone().tells(0, 0, 5, 1).does("line(2, 60)").tells(0, 0, 5, 60).placed(1, "1 0 65 60 2");
        run.does("back(1)", "line(2, 0)").tells(0, 0, 5, 60).placed(2, "2 0 6 59 -6");
    }

    private static void cutIfCutsIsOne() {
        Check.says("Else it is CUT, if CUTS is 1");
        alone().tells(0, 0, 5, 1).does("rule(4, 0)").tells(0, 0, 5, 60).placed(1, LOST).does("rule(4, 1)").tells(0, 0, 5, 60)
                .placed(2, "2 0 6 59 -6");
    }

    private static void pieceIsLongest() {
        Check.says("of each COLOUR the PIECE: the longest SPAN");
        // Of 10 to 29, with one BOOKING: the longer PIECE lies ahead of it, or behind.
        alone().tells(0, 0, 20, 2).tells(0, 0, 10, 20).placed(1, "2 0 10 10 -6");
        alone().tells(0, 0, 18, 2).tells(0, 0, 10, 20).placed(1, "2 0 20 10 -6");
        // With two: ahead of both 3, between them 4, behind both 3.
        alone().tells(0, 0, 13, 2).tells(0, 0, 19, 2).tells(0, 0, 10, 14).placed(2, "2 0 15 4 -6");
        alone().tells(0, 0, 18, 2).tells(0, 0, 13, 2).tells(0, 0, 10, 14).placed(2, "2 0 20 4 -6");
        // A PIECE of one TICK, the first, the last, and one in the middle.
        alone().tells(0, 0, 11, 5).tells(0, 0, 10, 6).placed(1, "2 0 10 1 -6");
        alone().tells(0, 0, 10, 5).tells(0, 0, 10, 6).placed(1, "2 0 15 1 -6");
        alone().tells(0, 0, 10, 2).tells(0, 0, 13, 3).tells(0, 0, 10, 6).placed(2, "2 0 12 1 -6");
    }

    private static void pieceIsFirstOfAsLong() {
        Check.says("of as long ones the first");
        alone().tells(0, 0, 13, 4).tells(0, 0, 10, 10).placed(1, "2 0 10 3 -6");
        alone().tells(0, 0, 10, 1).tells(0, 0, 14, 1).tells(0, 0, 18, 1).tells(0, 0, 10, 9).placed(3, "2 0 11 3 -6");
        alone().tells(0, 0, 18, 1).tells(0, 0, 14, 1).tells(0, 0, 10, 12).placed(2, "2 0 10 4 -6");
        // All but every other TICK are booked: PIECES of one TICK each.
        alone().tells(0, 0, 11, 1).tells(0, 0, 13, 1).tells(0, 0, 15, 1).tells(0, 0, 10, 7).placed(3, "2 0 10 1 -6");
    }

    private static void pieceLiesInTheSpan() {
        Check.says("that lies in the SPAN of the BURST");
        // BOOKINGS lap over the SPAN's first and last TICKS; the room ahead of and behind it is no part of it.
        alone().tells(0, 0, 8, 4).tells(0, 0, 18, 9).tells(0, 0, 10, 10).placed(2, "2 0 12 6 -6");
        alone().tells(0, 0, 11, 8).tells(0, 0, 10, 10).placed(1, "2 0 10 1 -6");
        alone().tells(0, 0, 9, 12).tells(0, 0, 10, 10).placed(1, LOST);
        // Nor is the room between one that has ENDED before it and one that laps over it.
        alone().tells(0, 0, 1, 1).tells(0, 0, 9, 12).tells(0, 0, 10, 10).placed(2, LOST);
        alone().tells(0, 0, 1, 1).tells(0, 0, 10, 9).tells(0, 0, 10, 10).placed(2, "2 0 19 1 -6");
        alone().tells(0, 0, 1, 9).tells(0, 0, 10, 9).tells(0, 0, 10, 10).placed(2, "2 0 19 1 -6");
        alone().tells(0, 0, 10, 10).tells(0, 0, 10, 10).placed(1, LOST).tells(0, 0, 10, 11).placed(2, "2 0 20 1 -6")
                .tells(0, 0, 9, 11).placed(3, "2 0 9 1 -6");
    }

    private static void pieceWithWayZero() {
        Check.says("for which the COLOUR is FREE, of as long ones the first");
        // Ahead of an END nothing is FREE, however long it is; behind the last one, all is.
        alone().does("rule(5, 0)").tells(0, 0, 25, 2).tells(0, 0, 10, 20).placed(1, "2 0 27 3 -6");
        alone().does("rule(5, 0)").tells(0, 0, 25, 4).tells(0, 0, 10, 20).placed(1, "2 0 29 1 -6");
        alone().does("rule(5, 0)").tells(0, 0, 25, 5).tells(0, 0, 10, 20).placed(1, LOST);
        alone().does("rule(5, 0)").tells(0, 0, 40, 5).tells(0, 0, 10, 20).placed(1, LOST);
        alone().tells(0, 0, 12, 2).tells(0, 0, 20, 2).does("rule(5, 0)").tells(0, 0, 10, 20).placed(2, "2 0 22 8 -6");
    }

    private static void pieceOnNearestColour() {
        Check.says("of all COLOURS that with the longest PIECE, of such the NEAREST");
        // Of 10 to 19 the COLOURS 0 to 5 leave PIECES of 4, 5, 3, 3, 5, 1.
        int[] pieces = {4, 5, 3, 3, 5, 1};
        Run run = alone();
        for (int colour = 0; colour < 6; colour++) {
            run.tells(0, colour, 10, 10 - pieces[colour]);
        }
        run.does("rule(0, 5)", "rule(1, 10)");
        for (int colour = 0; colour < 6; colour++) {
            int longest = Math.abs(4 - colour) < Math.abs(1 - colour) ? 4 : 1;
            run.again().does("tell(0, " + colour + ", 0, 1, 10)").placed(6, "2 " + longest + " 15 5 -6");
        }
        run.does("rule(0, 1)");
        run.again().does("tell(0, 0, 0, 1, 10)").placed(6, "2 1 15 5 -6");
        run.again().does("tell(0, 2, 0, 1, 10)").placed(6, "2 1 15 5 -6");
        run.again().does("tell(0, 1, 0, 1, 10)", "tell(0, 2, 0, 1, 10)").placed(7, "2 2 17 3 -6");
        asFarPieces();
    }

    /** COLOURS 1 and 3 leave PIECES as long, ahead of a BOOKING and behind one: no GAP and no TICK is asked for. */
    private static void asFarPieces() {
        Run run = alone().tells(0, 2, 10, 10).tells(0, 1, 10, 6).tells(0, 3, 14, 6).does("rule(0, 1)");
        run.again().tells(0, 2, 10, 10).placed(3, "2 1 16 4 -6");
        run.tells(0, 3, 10, 2).tells(0, 2, 10, 10).placed(4, "2 1 16 4 -6").tells(0, 2, 10, 10).placed(5, "2 3 12 2 -6");
    }

    private static void pieceHasLeastTicks() {
        Check.says("if this has LEAST TICKS or more, the PIECE is BOOKED, and what is not of it is lost.");
        for (int least : new int[] {1, 2, 3, 30, 58, 59}) {
            Run run = Run.of("rule(0, 0)", "rule(3, " + least + ")").tells(0, 0, 10, 1);
            run.again().tells(0, 0, 10, least + 1).placed(1, "2 0 11 " + least + " -6")
                    .row("tally(0, *)", "1 2 3", (least + 2) + " " + (least + 1) + " 0");
            run.tells(0, 0, 10, least).placed(1, LOST).row("tally(0, *)", "1 2 3", (least + 1) + " 1 1");
        }
        // A PIECE is never of 60 TICKS: what is FREE for all of the SPAN is SENT.
        Run.of("rule(0, 0)", "rule(3, 60)").tells(0, 0, 10, 1).tells(0, 0, 10, 60).placed(1, LOST).tells(0, 0, 11, 60)
                .placed(2, "0 0 11 60 -6");
        // LEAST is asked of a PIECE alone, not of what is SENT or DELAYED.
        Run.of("rule(0, 0)", "rule(3, 60)", "line(0, 1)").tells(0, 0, 10, 1).placed(0, "0 0 10 1 -6").tells(0, 0, 10, 1)
                .placed(1, "1 0 11 1 0");
    }

    private static void lostIsBookedNowhere() {
        Check.says("Else it is LOST.");
        Scenes.narrow(10, 5).does("line(1, 4)").tells(0, 0, 10, 5).placed(1, LOST).row("count(*)", "2 3 4 5 7 8", "1 0 0 1 1 0")
                .due("held(1, 0, 0)", -6).due("booking(0, 0, 1, 0)", -6).row("tally(0, *)", "0 1 2 3 4 5", "2 10 5 1 1 2");
    }

    private static void fates() {
        Check.says("FATES: 0 SENT, 1 DELAYED, 2 CUT, 3 LOST, 4 TAKEN BACK.");
        Scenes.worn().row("burst(*, 6)", "0 3 4 5 6", "0 1 2 3 4").row("count(*)", "1 2 3 4 5 6", "9 5 1 1 1 1");
    }
}
