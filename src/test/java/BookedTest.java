/** Promises 9 to 16: booking, held, busy, free, next, hole, tally, count. */
public final class BookedTest {
    private static final int MIN = Integer.MIN_VALUE;
    private static final int MAX = Integer.MAX_VALUE;
    private static final int[][] WRONG_SPANS = {{-1, 1}, {20001, 1}, {0, 0}, {0, 2001}, {MIN, 1}, {MAX, 1}, {0, MIN}, {0, MAX}};

    public static void main(String[] args) {
        bookingByRisingTicks();
        bookingHasThePiece();
        bookingRefuses();
        heldByRisingTicks();
        heldRefuses();
        busyCountsTicks();
        busyRefuses();
        freeIsASet();
        freeRefuses();
        nextFindsTheFirst();
        nextRefuses();
        holesBetween();
        holesFromNowOn();
        holeRefuses();
        tallyOfEachClass();
        tallyInLowestTerms();
        tallyRefuses();
        countOfAll();
        countRefuses();
        Check.end();
    }

    /** On COLOUR 2 of OUT 1: burst 1 on 4 to 8, burst 2 on 12 to 15, burst 0 on 20 to 29, burst 3 on 30 to 31. */
    private static LightBursts booked() {
        LightBursts x = new LightBursts();
        x.rule(0, 0);
        x.tell(1, 2, 2, 1, 10);
        x.tell(1, 2, 0, 1, 5);
        x.tell(1, 2, 1, 1, 4);
        x.rule(1, 15);
        x.tell(1, 2, 0, 2, 2);
        x.rule(1, 4);
        return x;
    }

    private static void bookingByRisingTicks() {
        LightBursts x = booked();
        String[] want = {"4 5 1", "12 4 2", "20 10 0", "30 2 3", "-6 -6 -6"};
        for (int i = 0; i < want.length; i++) {
            Check.row("booking " + i, want[i], x.booking(1, 2, i, 0), x.booking(1, 2, i, 1), x.booking(1, 2, i, 2));
        }
        Check.row("elsewhere", "-6 -6 -6", x.booking(0, 2, 0, 0), x.booking(1, 1, 0, 0), x.booking(1, 3, 0, 0));
        Check.row("no such i", "-6 -6 -6", x.booking(1, 2, -1, 0), x.booking(1, 2, MIN, 2), x.booking(1, 2, MAX, 1));
        x.pass(200);
        Check.row("what has passed is still told", "4 30", x.booking(1, 2, 0, 0), x.booking(1, 2, 3, 0));
        LightBursts y = booked();
        y.back(2);
        Check.row("one was taken back", "4 20 30 -6", y.booking(1, 2, 0, 0), y.booking(1, 2, 1, 0), y.booking(1, 2, 2, 0),
                y.booking(1, 2, 3, 0));
    }

    private static void bookingHasThePiece() {
        LightBursts x = booked();
        Check.due("tell", x.tell(1, 2, 0, 1, 11), 4);
        Check.row("the piece", "9 3 4", x.booking(1, 2, 1, 0), x.booking(1, 2, 1, 1), x.booking(1, 2, 1, 2));
    }

    private static void bookingRefuses() {
        int[][] unknown = {{-1, 0}, {2, 0}, {0, -1}, {0, 6}, {MIN, MAX}};
        for (int[] p : unknown) {
            Check.refused(booked(), "booking(" + p[0] + ", " + p[1] + ")", -1, y -> y.booking(p[0], p[1], 0, 0));
            Check.refused(booked(), "booking(" + p[0] + ", " + p[1] + "), wrong", -1, y -> y.booking(p[0], p[1], -1, 3));
        }
        for (int what : new int[] {-1, 3, MIN, MAX}) {
            Check.refused(booked(), "booking, what " + what, -2, y -> y.booking(1, 2, 0, what));
            Check.refused(booked(), "booking of none, what " + what, -2, y -> y.booking(1, 2, -1, what));
        }
    }

    /** Held by LINE 1: burst 1 on 20 to 29, burst 3 on 4 to 8; by LINE 2 none. */
    private static LightBursts delayed() {
        LightBursts x = new LightBursts();
        x.rule(0, 0);
        x.line(1, 40);
        x.tell(0, 0, 2, 1, 10);
        x.tell(0, 0, 2, 1, 10);
        x.tell(1, 0, 0, 1, 5);
        x.tell(1, 0, 0, 1, 5);
        return x;
    }

    private static void heldByRisingTicks() {
        LightBursts x = delayed();
        Check.row("held 0", "4 5 3", x.held(1, 0, 0), x.held(1, 0, 1), x.held(1, 0, 2));
        Check.row("held 1", "20 10 1", x.held(1, 1, 0), x.held(1, 1, 1), x.held(1, 1, 2));
        Check.row("no such i", "-6 -6 -6 -6", x.held(1, 2, 0), x.held(1, -1, 0), x.held(1, MIN, 1), x.held(1, MAX, 2));
        Check.row("other lines", "-6 -6", x.held(0, 0, 0), x.held(2, 0, 0));
        x.back(3);
        Check.row("one was taken back", "20 -6", x.held(1, 0, 0), x.held(1, 1, 0));
        x.pass(100);
        x.line(1, 0);
        Check.due("what was held stays", x.held(1, 0, 0), 20);
    }

    private static void heldRefuses() {
        for (int line : new int[] {-1, 3, MIN, MAX}) {
            Check.refused(delayed(), "held(" + line + ")", -1, y -> y.held(line, 0, 0));
            Check.refused(delayed(), "held(" + line + "), wrong", -1, y -> y.held(line, 0, 3));
        }
        for (int what : new int[] {-1, 3, MIN, MAX}) {
            Check.refused(delayed(), "held, what " + what, -2, y -> y.held(1, 0, what));
            Check.refused(delayed(), "held of none, what " + what, -2, y -> y.held(1, 9, what));
        }
    }

    private static void busyCountsTicks() {
        LightBursts x = booked();
        Check.row("busy", "21 0 1 5 1 0 0", x.busy(1, 2, 0, 2000), x.busy(1, 2, 0, 4), x.busy(1, 2, 0, 5), x.busy(1, 2, 4, 8),
                x.busy(1, 2, 8, 4), x.busy(1, 2, 9, 3), x.busy(1, 2, 32, 2000));
        Check.row("busy within", "1 3 2 6", x.busy(1, 2, 31, 1), x.busy(1, 2, 22, 3), x.busy(1, 2, 29, 2), x.busy(1, 2, 7, 9));
        Check.row("elsewhere", "0 0", x.busy(0, 2, 0, 2000), x.busy(1, 3, 0, 2000));
        x.pass(200);
        Check.due("what has passed is still booked", x.busy(1, 2, 0, 2000), 21);
        Check.due("lines do not count", delayed().busy(0, 0, 0, 100), 20);
        Check.due("the last tick", x.busy(1, 2, 20000, 2000), 0);
    }

    private static void busyRefuses() {
        int[][] unknown = {{-1, 0, 0, 1}, {2, 0, 0, 1}, {0, -1, 0, 1}, {0, 6, 0, 1}, {2, 0, -1, 0}};
        for (int[] p : unknown) {
            Check.refused(booked(), "busy, unknown", -1, y -> y.busy(p[0], p[1], p[2], p[3]));
            Check.refused(booked(), "next, unknown", -1, y -> y.next(p[0], p[1], p[2], p[3]));
        }
        for (int[] p : WRONG_SPANS) {
            Check.refused(booked(), "busy, outside", -2, y -> y.busy(1, 2, p[0], p[1]));
        }
    }

    private static void freeIsASet() {
        LightBursts x = booked();
        x.tell(1, 5, 0, 1, 5);
        x.tell(1, 0, 0, 2, 1);
        Check.row("free", "27 26 63 63 26 27 59", x.free(1, 4, 2), x.free(1, 0, 100), x.free(1, 9, 3), x.free(1, 0, 4),
                x.free(1, 8, 1), x.free(1, 7, 1), x.free(1, 12, 1));
        Check.row("the edges", "59 63 27 63", x.free(1, 29, 1), x.free(1, 32, 2000), x.free(1, 3, 2), x.free(1, 20000, 2000));
        Check.due("the other out", x.free(0, 0, 2000), 63);
        x.rule(5, 0);
        Check.due("way 0 does not count here", x.free(1, 9, 3), 63);
    }

    private static void freeRefuses() {
        for (int out : new int[] {-1, 2, MIN, MAX}) {
            Check.refused(booked(), "free(" + out + ")", -1, y -> y.free(out, 0, 1));
            Check.refused(booked(), "free(" + out + "), wrong", -1, y -> y.free(out, -1, 0));
        }
        for (int[] p : WRONG_SPANS) {
            Check.refused(booked(), "free, outside", -2, y -> y.free(1, p[0], p[1]));
        }
    }

    private static void nextFindsTheFirst() {
        LightBursts x = booked();
        Check.row("next", "0 32 9 9 9 16 16", x.next(1, 2, 0, 4), x.next(1, 2, 0, 5), x.next(1, 2, 4, 1), x.next(1, 2, 8, 3),
                x.next(1, 2, 9, 3), x.next(1, 2, 10, 3), x.next(1, 2, 12, 4));
        Check.row("next, long and late", "32 32 11 33 20000", x.next(1, 2, 1, 2000), x.next(1, 2, 30, 1), x.next(1, 2, 11, 1),
                x.next(1, 2, 33, 7), x.next(1, 2, 20000, 2000));
        Check.row("elsewhere", "0 3", x.next(0, 2, 0, 2000), x.next(1, 1, 3, 2000));
        x.pass(100);
        x.rule(5, 0);
        Check.due("now and way do not count here", x.next(1, 2, 0, 4), 0);
    }

    private static void nextRefuses() {
        for (int[] p : WRONG_SPANS) {
            Check.refused(booked(), "next, outside", -2, y -> y.next(1, 2, p[0], p[1]));
        }
    }

    private static void hole(LightBursts x, int i, String want) {
        Check.row("hole " + i + " at " + x.count(0), want, x.hole(1, 2, i, 0), x.hole(1, 2, i, 1));
    }

    private static void holesBetween() {
        LightBursts x = booked();
        hole(x, 0, "0 4");
        hole(x, 1, "9 3");
        hole(x, 2, "16 4");
        hole(x, 3, "-6 -6");
        hole(x, -1, "-6 -6");
        hole(x, MIN, "-6 -6");
        hole(x, MAX, "-6 -6");
        Check.row("elsewhere", "-6 -6", x.hole(0, 2, 0, 0), x.hole(1, 1, 0, 1));
    }

    private static void holesFromNowOn() {
        LightBursts x = booked();
        x.pass(3);
        hole(x, 0, "3 1");
        x.pass(1);
        hole(x, 0, "9 3");
        x.pass(4);
        hole(x, 0, "9 3");
        x.pass(2);
        hole(x, 0, "10 2");
        hole(x, 1, "16 4");
        hole(x, 2, "-6 -6");
        x.pass(2);
        hole(x, 0, "16 4");
        x.pass(7);
        hole(x, 0, "19 1");
        x.pass(1);
        hole(x, 0, "-6 -6");
        x.pass(100);
        hole(x, 0, "-6 -6");
    }

    private static void holeRefuses() {
        int[][] unknown = {{-1, 0}, {2, 0}, {0, -1}, {0, 6}, {MAX, MIN}};
        for (int[] p : unknown) {
            Check.refused(booked(), "hole, unknown", -1, y -> y.hole(p[0], p[1], 0, 0));
            Check.refused(booked(), "hole, unknown and wrong", -1, y -> y.hole(p[0], p[1], -1, 2));
        }
        for (int what : new int[] {-1, 2, MIN, MAX}) {
            Check.refused(booked(), "hole, what " + what, -2, y -> y.hole(1, 2, 0, what));
            Check.refused(booked(), "hole of none, what " + what, -2, y -> y.hole(1, 2, 9, what));
        }
    }

    private static void tally(LightBursts x, int kind, String want) {
        Check.row("tally " + kind, want, x.tally(kind, 0), x.tally(kind, 1), x.tally(kind, 2), x.tally(kind, 3),
                x.tally(kind, 4), x.tally(kind, 5));
    }

    /** Of class 0: one sent, one delayed, one cut to 3 of 13, one lost; of class 1: one sent. */
    private static LightBursts mixed() {
        LightBursts x = new LightBursts();
        x.rule(0, 0);
        x.line(1, 20);
        x.tell(0, 3, 0, 1, 10);
        x.tell(0, 3, 0, 1, 10);
        x.tell(0, 3, 0, 1, 13);
        x.tell(0, 3, 0, 1, 9);
        x.tell(1, 3, 1, 1, 7);
        return x;
    }

    private static void tallyOfEachClass() {
        LightBursts x = mixed();
        tally(x, 0, "4 42 23 1 19 42");
        tally(x, 1, "1 7 7 0 0 1");
        tally(x, 2, "0 0 0 0 -6 -6");
        x.back(3);
        tally(x, 0, "3 33 23 0 10 33");
        x.back(0);
        tally(x, 0, "2 23 13 0 10 23");
        x.back(4);
        tally(x, 1, "0 0 0 0 -6 -6");
        x.pass(200);
        tally(x, 0, "2 23 13 0 10 23");
    }

    private static void tallyInLowestTerms() {
        LightBursts x = new LightBursts();
        x.rule(0, 0);
        x.tell(0, 0, 2, 1, 12);
        x.tell(0, 0, 2, 1, 6);
        tally(x, 2, "2 18 12 1 1 3");
        x.tell(0, 0, 2, 1, 12);
        tally(x, 2, "3 30 12 2 3 5");
        x.back(0);
        tally(x, 2, "2 18 0 2 1 1");
        x.tell(0, 0, 1, 1, 1);
        tally(x, 1, "1 1 1 0 0 1");
    }

    private static void tallyRefuses() {
        for (int kind : new int[] {-1, 3, MIN, MAX}) {
            Check.refused(mixed(), "tally(" + kind + ")", -1, y -> y.tally(kind, 0));
            Check.refused(mixed(), "tally(" + kind + "), wrong", -1, y -> y.tally(kind, 6));
        }
        for (int what : new int[] {-1, 6, MIN, MAX}) {
            Check.refused(mixed(), "tally, what " + what, -2, y -> y.tally(0, what));
            Check.refused(mixed(), "tally of none, what " + what, -2, y -> y.tally(2, what));
        }
    }

    private static void countOfAll() {
        LightBursts x = mixed();
        x.tell(1, 3, 2, 1, 7);
        x.tell(1, 4, 2, 1, 7);
        x.back(5);
        x.back(6);
        x.pass(2);
        x.rule(1, 7);
        x.rule(2, 9);
        x.rule(3, 11);
        x.rule(4, 0);
        x.rule(5, 0);
        x.line(0, 31);
        x.line(2, 33);
        x.image(1);
        Check.row("counts", "2 7 2 1 1 1 2 4 1 2", x.count(0), x.count(1), x.count(2), x.count(3), x.count(4), x.count(5),
                x.count(6), x.count(7), x.count(8), x.count(9));
        Check.row("rules", "0 7 9 11 0 0", x.count(10), x.count(11), x.count(12), x.count(13), x.count(14), x.count(15));
        Check.row("lengths", "31 20 33", x.count(20), x.count(21), x.count(22));
        x.image(0);
        Check.due("both images", x.count(9), 3);
        x.back(1);
        Check.row("a delayed one taken back", "0 3 3 0", x.count(3), x.count(6), x.count(7), x.count(8));
    }

    private static void countRefuses() {
        for (int what : new int[] {-1, 16, 17, 18, 19, 23, MIN, MAX}) {
            Check.refused(mixed(), "count(" + what + ")", -2, y -> y.count(what));
        }
    }
}
