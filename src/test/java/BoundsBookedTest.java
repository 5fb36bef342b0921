import java.util.List;

/** The boundaries that promises 9 to 18 name: what is booked, tallies, counts, and images. */
public final class BoundsBookedTest {
    public static void main(String[] args) {
        bookingsByRisingTicks();
        bookingIsNone();
        bookingIsRefused();
        heldLikewise();
        heldIsRefused();
        busyAtTheEndsOfItsRanges();
        busyIsRefused();
        freeIsASetOfBits();
        freeAtTheEndsOfItsRanges();
        freeIsRefused();
        nextIsTheFirst();
        nextAtTheEndsOfItsRanges();
        nextIsRefused();
        holeIsNone();
        holesBehindNow();
        holesWithAnyTick();
        holeIsRefused();
        tallyOfAClass();
        tallyIsNone();
        tallyIsRefused();
        countsOfBursts();
        countOfImages();
        countsOfRulesAndLines();
        countIsOutside();
        imageInPlaceOfAnother();
        imageIsOutside();
        restoreAllButImages();
        restoreIsRefused();
        Check.end();
    }

    /** On COLOUR 0 of OUT 0, as told: 20 to 24, 5 to 9, 10 to 14, 40 alone. */
    private static Run four() {
        return Scenes.narrow(20, 5).tells(0, 0, 5, 5).tells(0, 0, 10, 5).tells(0, 0, 40, 1);
    }

    private static void bookingsByRisingTicks() {
        Check.says("Of the i-th BOOKING, by rising TICKS, from 0 on, on a COLOUR of an OUT: from where on (what = 0), how many "
                + "TICKS (1), the BURST (2)");
        four().row("booking(0, 0, *, 0)", "0 1 2 3", "5 10 20 40").row("booking(0, 0, *, 1)", "0 1 2 3", "5 5 5 1")
                .row("booking(0, 0, *, 2)", "0 1 2 3", "1 2 0 3");
        Run all = fortyEight();
        for (int i = 0; i < 48; i++) {
            all.row("booking(1, 5, " + i + ", *)", "0 2", (i + 1) + " " + (47 - i));
        }
        all.row("booking(1, 5, *, 1)", "-1 0 47 48", "-6 1 1 -6").due("count(7)", 48);
        // With all that can be BOOKED on one COLOUR, the other questions are answered, too.
        Run asked = fortyEight().does("rule(1, 1)", "rule(3, 1)").row("next(1, 5, *, 1)", "0 1 48 49", "0 49 49 49")
                .row("busy(1, 5, 0, *)", "1 49 2000", "0 48 48").row("free(1, *, 1)", "0 1 48 49", "63 31 31 63");
        asked.row("would(1, 5, 0, 1, *)", "48 49", "3 2").row("hole(1, 5, *, 1)", "0 1", "1 -6").row("tally(1, *)", "0 2 4 5", "48 48 0 1");
    }

    /** TICKS 48 to 1 of COLOUR 5 of OUT 1 are booked for a BURST each, the last TICK first. */
    private static Run fortyEight() {
        Run run = Run.of("rule(0, 0)");
        for (int tick = 48; tick > 0; tick--) {
            int hops = tick > 40 ? 2 : 1;
            int hop = Math.min(20, tick);
            run.does("rule(1, " + hop + ")", "rule(2, " + (tick - hop * hops) + ")", "tell(1, 5, 1, " + hops + ", 1)");
        }
        return run;
    }

    private static void bookingIsNone() {
        Check.says("the BURST (2); NONE: there is none such (i below 0, too).");
        new Run().row("booking(0, 0, *, 0)", "MIN -1 0 1 MAX", "-6 -6 -6 -6 -6");
        for (int what = 0; what <= 2; what++) {
            four().row("booking(0, 0, *, " + what + ")", "MIN -1 4 5 47 48 MAX", "-6 -6 -6 -6 -6 -6 -6")
                    .row("booking(0, *, 0, " + what + ")", "1 5", "-6 -6").due("booking(1, 0, 0, " + what + ")", -6);
        }
        four().does("back(3)").row("booking(0, 0, *, 0)", "2 3", "20 -6").does("back(1)").row("booking(0, 0, *, 0)", "0 1 2", "10 20 -6")
                .does("back(2)", "back(0)").row("booking(0, 0, *, 0)", "-1 0", "-6 -6");
        // A LOST one has no BOOKING, and what has passed is BOOKED still.
        Scenes.narrow(5, 5).tells(0, 0, 5, 5).row("booking(0, 0, *, 2)", "0 1", "0 -6").does("pass(200)")
                .row("booking(0, 0, *, 2)", "0 1", "0 -6");
    }

    private static void bookingIsRefused() {
        Check.says("NONE: there is none such (i below 0, too). UNKNOWN: both; OUTSIDE.");
        four().refused("booking(-1, 0, 0, 0)", -1).refused("booking(2, 0, 0, 0)", -1).refused("booking(0, -1, 0, 0)", -1)
                .refused("booking(0, 6, 0, 0)", -1).refused("booking(2, 6, -1, 3)", -1).refused("booking(0, 0, 0, -1)", -2)
                .refused("booking(0, 0, 0, 3)", -2).refused("booking(0, 0, 4, 3)", -2).refused("booking(0, 0, -1, -1)", -2)
                .row("booking(0, 0, 0, *)", "0 2", "5 1");
    }

    /** On LINE 2, as told: 20 to 24, 5 to 9; LINES 0 and 1 hold nothing. */
    private static Run twoHeld() {
        return Scenes.narrow(1, 60).does("line(2, 60)").tells(0, 0, 20, 5).tells(0, 0, 5, 5).row("burst(*, 10)", "1 2", "2 2");
    }

    private static void heldLikewise() {
        Check.says("Of the i-th BOOKING on a LINE, likewise.");
        twoHeld().row("held(2, *, 0)", "0 1", "5 20").row("held(2, *, 1)", "0 1", "5 5").row("held(2, *, 2)", "0 1", "2 1");
        for (int what = 0; what <= 2; what++) {
            twoHeld().row("held(2, *, " + what + ")", "MIN -1 2 3 47 48 MAX", "-6 -6 -6 -6 -6 -6 -6")
                    .row("held(*, 0, " + what + ")", "0 1", "-6 -6");
        }
        new Run().row("held(0, *, 0)", "MIN -1 0 MAX", "-6 -6 -6 -6");
        twoHeld().does("back(2)").row("held(2, *, 2)", "0 1", "1 -6").does("back(1)").due("held(2, 0, 2)", -6);
        twoHeld().does("pass(200)").row("held(2, *, 2)", "0 1 2", "2 1 -6");
    }

    private static void heldIsRefused() {
        Check.says("UNKNOWN: the LINE; OUTSIDE.");
        twoHeld().refused("held(-1, 0, 0)", -1).refused("held(3, 0, 0)", -1).refused("held(3, -1, 3)", -1).refused("held(MIN, 0, 0)", -1)
                .refused("held(2, 0, -1)", -2).refused("held(2, 0, 3)", -2).refused("held(2, 2, 3)", -2).refused("held(0, -1, -1)", -2)
                .row("held(2, 0, *)", "0 2", "5 2");
    }

    /** NOW is 21950; BOOKINGS on COLOUR 0 of OUT 0: 21960 to 21989, and 21998 to 22001. */
    private static Run late() {
        return Run.of("rule(0, 0)", "rule(4, 0)").does(109, "pass(200)").does("pass(150)").tells(0, 0, 21960, 30).tells(0, 0, 21998, 4);
    }

    /** NOW is 19980; BOOKINGS on COLOUR 0 of OUT 0: 19990 to 19999, and 20000 to 20009. */
    private static Run about20000() {
        return Run.of("rule(0, 0)", "rule(4, 0)").does(99, "pass(200)").does("pass(180)").tells(0, 0, 19990, 10).tells(0, 0, 20000, 10);
    }

    private static void busyAtTheEndsOfItsRanges() {
        Check.says("How many TICKS of the SPAN from a TICK on (0 to 20000), of n TICKS (1 to 2000), are BOOKED on a COLOUR of an OUT.");
        // BOOKED from TICK 1 on: the least that can be. TICK 0 never is.
        Scenes.narrow(1, 2).row("busy(0, 0, 0, *)", "1 2 3 4 2000", "0 1 2 2 2").row("busy(0, 0, *, 1)", "0 1 2 3", "0 1 1 0");
        four().row("busy(0, 0, *, 2000)", "0 5 6 40 41", "16 16 15 1 0").row("busy(0, 0, *, 10)", "5 6 15 16", "10 9 5 5");
        about20000().row("busy(0, 0, *, 1)", "19989 19990 19999 20000", "0 1 1 1").row("busy(0, 0, 20000, *)", "1 10 11 2000", "1 10 10 10")
                .due("busy(0, 0, 18000, 2000)", 10).due("busy(0, 0, 18001, 2000)", 11).refused("busy(0, 0, 20001, 1)", -2);
        // 20000 and 2000 less 1: the last TICK that can be asked for is 21999.
        late().row("busy(0, 0, 20000, *)", "1 1960 1961 1990 1998 1999 2000", "0 0 1 30 30 31 32").refused("busy(0, 0, 20000, 2001)", -2)
                .due("busy(0, 1, 20000, 2000)", 0).due("busy(1, 0, 20000, 2000)", 0);
    }

    private static final String[][] WRONG_SPANS = {{"-1", "1"}, {"20001", "1"}, {"0", "0"}, {"0", "2001"}, {"MIN", "1"},
        {"MAX", "1"}, {"0", "MIN"}, {"0", "MAX"}, {"0", "-1"}, {"20001", "2001"}, {"MAX", "MAX"}};

    private static void spansAreRefused(String name) {
        Run run = four();
        for (String[] span : WRONG_SPANS) {
            run.refused(name + span[0] + ", " + span[1] + ")", -2);
        }
    }

    private static void busyIsRefused() {
        Check.says("are BOOKED on a COLOUR of an OUT. UNKNOWN: both; OUTSIDE: both.");
        spansAreRefused("busy(0, 0, ");
        four().refused("busy(-1, 0, 0, 1)", -1).refused("busy(2, 0, 0, 1)", -1).refused("busy(0, -1, 0, 1)", -1)
                .refused("busy(0, 6, 0, 1)", -1).refused("busy(2, 0, -1, 1)", -1).refused("busy(0, 6, 0, 2001)", -1);
    }

    private static void freeIsASetOfBits() {
        Check.says("The set of COLOURS of an OUT on which no BOOKING CLASHES with the SPAN from a TICK on (0 to 20000), of n TICKS "
                + "(1 to 2000) (bit i, of the value 1 shifted left by i: COLOUR i).");
        Run run = Run.of("rule(0, 0)").due("free(1, 5, 10)", 63);
        int set = 63;
        for (int colour = 5; colour >= 0; colour--) {
            Run.of("rule(0, 0)").tells(1, colour, 5, 10).due("free(1, 5, 10)", 63 - (1 << colour)).due("free(0, 5, 10)", 63);
            set -= 1 << colour;
            run.tells(1, colour, 5, 10).due("free(1, 5, 10)", set);
        }
        run.due("free(1, 5, 10)", 0).row("free(1, 5, *)", "1 2000", "0 0").row("free(1, *, 1)", "4 5 14 15", "63 0 0 63");
    }

    private static void freeAtTheEndsOfItsRanges() {
        Scenes.narrow(1, 2).row("free(0, 0, *)", "1 2 2000", "63 62 62").row("free(0, *, 2000)", "0 2 3", "62 62 63");
        about20000().row("free(0, *, 1)", "19989 19990 20000", "63 62 62").refused("free(0, 20001, 1)", -2);
        late().row("free(0, 20000, *)", "1 1960 1961 2000", "63 63 62 62").refused("free(0, 20000, 2001)", -2);
        late().does("back(0)").row("free(0, 20000, *)", "1998 1999 2000", "63 62 62");
        // WAY and NOW are nothing to it: no BOOKING must CLASH, that is all.
        four().does("rule(5, 0)").due("free(0, 0, 5)", 63).does("pass(30)").due("free(0, 5, 1)", 62).due("free(0, 15, 5)", 63);
    }

    private static void freeIsRefused() {
        Check.says("UNKNOWN: the OUT; OUTSIDE: both.");
        spansAreRefused("free(0, ");
        four().refused("free(-1, 0, 1)", -1).refused("free(2, 0, 1)", -1).refused("free(MIN, 0, 1)", -1).refused("free(MAX, 0, 1)", -1)
                .refused("free(2, -1, 0)", -1);
    }

    private static void nextIsTheFirst() {
        Check.says("The first TICK, from one on (0 to 20000), from which on no BOOKING on a COLOUR of an OUT CLASHES with n TICKS "
                + "(1 to 2000).");
        // The voids are 0 to 4, 15 to 19, 25 to 39, and 41 and all behind.
        four().row("next(0, 0, 0, *)", "1 5 6 15 16 2000", "0 0 25 25 41 41").row("next(0, 0, *, 1)", "4 5 9 10 14 15", "4 15 15 15 15 15")
                .row("next(0, 0, *, 5)", "0 1 15 16", "0 15 15 25").row("next(0, 0, *, 15)", "24 25 26", "25 25 41")
                .row("next(0, 0, *, 2000)", "39 40 41 42", "41 41 41 42");
        four().does("pass(200)", "rule(5, 0)").row("next(0, 0, 0, *)", "5 6 16", "0 25 41");
        new Run().row("next(1, 5, *, 2000)", "0 1 20000", "0 1 20000");
    }

    private static void nextAtTheEndsOfItsRanges() {
        Scenes.narrow(1, 2).row("next(0, 0, *, 1)", "0 1 2 3", "0 3 3 3").row("next(0, 0, 0, *)", "1 2 2000", "0 3 3");
        // What is asked is 20000 at most, what is answered may lie behind it.
        about20000().row("next(0, 0, *, 1)", "19989 19990 20000", "19989 20010 20010").due("next(0, 0, 20000, 2000)", 20010)
                .refused("next(0, 0, 20001, 1)", -2);
        late().row("next(0, 0, 20000, *)", "1 1960 1961 2000", "20000 20000 22002 22002").refused("next(0, 0, 20000, 2001)", -2);
    }

    private static void nextIsRefused() {
        Check.says("CLASHES with n TICKS (1 to 2000). UNKNOWN: both; OUTSIDE: both.");
        spansAreRefused("next(0, 0, ");
        four().refused("next(-1, 0, 0, 1)", -1).refused("next(2, 0, 0, 1)", -1).refused("next(0, -1, 0, 1)", -1)
                .refused("next(0, 6, 0, 1)", -1).refused("next(2, 0, -1, 1)", -1).refused("next(0, 6, 0, 2001)", -1);
    }

    private static void holeIsNone() {
        Check.says("Of the i-th VOID of a COLOUR of an OUT, from 0 on: from where on (what = 0), how many TICKS (1); NONE: there is none "
                + "such (i below 0, too).");
        new Run().row("hole(0, 0, *, 0)", "MIN -1 0 MAX", "-6 -6 -6 -6");
        // Behind the last BOOKING there is no VOID.
        four().row("hole(0, 0, *, 0)", "MIN -1 0 1 2 3 47 MAX", "-6 -6 0 15 25 -6 -6 -6")
                .row("hole(0, 0, *, 1)", "MIN -1 0 1 2 3 47 MAX", "-6 -6 5 5 15 -6 -6 -6").due("hole(0, 1, 0, 0)", -6)
                .due("hole(1, 0, 0, 0)", -6);
        four().does("back(3)").row("hole(0, 0, *, 1)", "0 1 2", "5 5 -6").does("back(1)").row("hole(0, 0, *, 1)", "0 1 2", "10 5 -6");
    }

    private static void holesBehindNow() {
        Check.says("VOIDS, by rising TICKS: for each BOOKING on it that begins behind NOW the SPAN from the greatest of NOW and the "
                + "END of the BOOKING before that, if there is one, up to where it begins");
        four().does("pass(4)").row("hole(0, 0, *, 0)", "0 1", "4 15").due("hole(0, 0, 0, 1)", 1);
        four().does("pass(5)").row("hole(0, 0, *, 0)", "0 1 2", "15 25 -6");
        four().does("pass(14)").row("hole(0, 0, *, 0)", "0 1 2", "15 25 -6").due("hole(0, 0, 0, 1)", 5);
        four().does("pass(15)").row("hole(0, 0, *, 0)", "0 1 2", "15 25 -6").due("hole(0, 0, 0, 1)", 5);
        four().does("pass(16)").row("hole(0, 0, *, 0)", "0 1 2", "16 25 -6").due("hole(0, 0, 0, 1)", 4);
        four().does("pass(19)").row("hole(0, 0, 0, *)", "0 1", "19 1");
        four().does("pass(20)").row("hole(0, 0, 0, *)", "0 1", "25 15").due("hole(0, 0, 1, 0)", -6);
        four().does("pass(39)").row("hole(0, 0, 0, *)", "0 1", "39 1");
        four().does("pass(40)").due("hole(0, 0, 0, 0)", -6).does("pass(1)").due("hole(0, 0, 0, 0)", -6);
    }

    private static void holesWithAnyTick() {
        Check.says("up to where it begins, if this SPAN has any TICK.");
        // BOOKINGS that touch have no VOID between them, with one TICK between there is one.
        Scenes.narrow(1, 1).tells(0, 0, 2, 1).tells(0, 0, 4, 1).row("hole(0, 0, *, 0)", "0 1 2", "0 3 -6").row("hole(0, 0, *, 1)", "0 1 2", "1 1 -6");
        Scenes.narrow(1, 1).tells(0, 0, 2, 1).does("pass(1)").due("hole(0, 0, 0, 0)", -6);
        // The longest VOID ahead of one BOOKING: HOP 20, HOPS 5, AHEAD 20, CLASS 2.
        Run.of("rule(1, 20)", "rule(2, 20)", "tell(0, 0, 2, 5, 1)").row("hole(0, 0, 0, *)", "0 1", "0 140");
        // A PIECE, and what goes out behind a LINE, leave VOIDS as well.
        Scenes.narrow(5, 5).does("line(0, 20)").tells(0, 0, 5, 5).row("hole(0, 0, 1, *)", "0 1", "10 15").due("hole(0, 0, 2, 0)", -6);
    }

    private static void holeIsRefused() {
        Check.says("if this SPAN has any TICK. UNKNOWN: both; OUTSIDE.");
        four().refused("hole(-1, 0, 0, 0)", -1).refused("hole(2, 0, 0, 0)", -1).refused("hole(0, -1, 0, 0)", -1)
                .refused("hole(0, 6, 0, 0)", -1).refused("hole(2, 0, -1, 2)", -1).refused("hole(0, 0, 0, -1)", -2)
                .refused("hole(0, 0, 0, 2)", -2).refused("hole(0, 0, 3, 2)", -2).refused("hole(0, 0, -1, -1)", -2)
                .row("hole(0, 0, 0, *)", "0 1", "0 5");
    }

    private static void tallyOfAClass() {
        Check.says("The TALLY of a CLASS: how many BURSTS (what = 0), TICKS (1), TICKS that are BOOKED (2), BURSTS that are LOST (3)");
        // Of CLASS 0, of 46 TICKS: 8 thrice SENT, 8 DELAYED, 4 of 12 CUT, 2 LOST; the only other of CLASS 1 is TAKEN BACK.
        Scenes.worn().row("tally(0, *)", "0 1 2 3 4 5", "6 46 36 1 5 23").row("tally(1, *)", "0 1 2 3 4 5", "1 4 4 0 0 1")
                .row("tally(2, *)", "0 1 2 3 4 5", "1 60 60 0 0 1");
        // Of CLASS 0 a SENT one, a DELAYED one and 22 LOST; of CLASS 2 as many, but for the last, which is TAKEN BACK.
        Scenes.full().row("tally(0, *)", "0 1 2 3 4 5", "24 240 20 22 11 12").row("tally(2, *)", "0 1 2 3 4 5", "23 460 40 21 21 23");
    }

    private static void tallyIsNone() {
        Check.says("TICKS that are not BOOKED, by all TICKS: the upper number (4), the lower one (5; 4 and 5 NONE: there are no TICKS).");
        new Run().row("tally(0, *)", "0 1 2 3 4 5", "0 0 0 0 -6 -6").row("tally(2, *)", "0 1 2 3 4 5", "0 0 0 0 -6 -6");
        // One TICK is enough, SENT or LOST; none is left when it is TAKEN BACK.
        Run.of("tell(0, 0, 2, 1, 1)").row("tally(2, *)", "0 1 2 3 4 5", "1 1 1 0 0 1").row("tally(1, *)", "4 5", "-6 -6")
                .does("back(0)").row("tally(2, *)", "0 1 2 3 4 5", "0 0 0 0 -6 -6");
        Run.of("rule(0, 0)", "tell(0, 0, 2, 1, 1)").tells(0, 0, 20, 1).row("tally(0, *)", "0 1 2 3 4 5", "1 1 0 1 1 1").does("back(1)")
                .row("tally(0, *)", "4 5", "-6 -6");
    }

    private static void tallyIsRefused() {
        Check.says("there are no TICKS). UNKNOWN; OUTSIDE.");
        Scenes.worn().refused("tally(-1, 0)", -1).refused("tally(3, 0)", -1).refused("tally(3, 6)", -1).refused("tally(MIN, 0)", -1)
                .refused("tally(MAX, 0)", -1).refused("tally(0, -1)", -2).refused("tally(0, 6)", -2).refused("tally(2, MIN)", -2)
                .refused("tally(2, MAX)", -2).row("tally(*, 0)", "0 1 2", "6 1 1");
    }

    private static void countsOfBursts() {
        Check.says("NOW (what = 0), how many BURSTS were told (1), of the FATES 0 to 4 (2 to 6), how many BOOKINGS there are on "
                + "COLOURS (7), on LINES (8)");
        Scenes.worn().row("count(*)", "0 1 2 3 4 5 6 7 8", "7 9 5 1 1 1 1 7 1");
        new Run().row("count(*)", "0 1 2 3 4 5 6 7 8", "0 0 0 0 0 0 0 0 0");
        Run run = Scenes.narrow(5, 5).does("line(1, 20)").tells(0, 0, 5, 5).row("count(*)", "7 8", "2 1").does("pass(200)")
                .row("count(*)", "1 2 3 7 8", "2 1 1 2 1");
        run.does("pass(200)").row("count(*)", "0 7 8", "400 2 1");
        Scenes.narrow(5, 5).does("line(1, 20)").tells(0, 0, 5, 5).does("back(1)").row("count(*)", "1 2 3 6 7 8", "2 1 0 1 1 0");
    }

    private static void countOfImages() {
        Check.says("which IMAGES are kept (9: 1 the first, 2 the second, added)");
        new Run().due("count(9)", 0).does("image(0)").due("count(9)", 1).does("image(0)").due("count(9)", 1).does("image(1)").due("count(9)", 3)
                .does("restore(0)").due("count(9)", 3);
        new Run().does("image(1)").due("count(9)", 2).does("restore(1)").due("count(9)", 2).refused("image(2)", -2).due("count(9)", 2);
    }

    private static void countsOfRulesAndLines() {
        Check.says("RULES 0 to 5 (10 to 15); the LENGTHS of LINES 0 to 2 (20 to 22).");
        Run.of("rule(0, 2)", "rule(1, 11)", "rule(2, 12)", "rule(3, 13)", "rule(4, 0)", "rule(5, 0)", "line(0, 50)", "line(1, 51)", "line(2, 60)")
                .row("count(*)", "10 11 12 13 14 15", "2 11 12 13 0 0").row("count(*)", "20 21 22", "50 51 60")
                .does("rule(5, 1)").row("count(*)", "9 10 14 15 16", "0 2 0 1 -2").row("count(*)", "19 20 22 23", "-2 50 60 -2");
    }

    private static void countIsOutside() {
        Check.says("the LENGTHS of LINES 0 to 2 (20 to 22). OUTSIDE.");
        Run run = Scenes.worn();
        for (String what : new String[] {"-1", "16", "17", "18", "19", "23", "24", "30", "MIN", "MAX"}) {
            run.refused("count(" + what + ")", -2);
        }
    }

    private static void imageInPlaceOfAnother() {
        Check.says("All but IMAGES is kept in an IMAGE (0, 1), in place of what was kept there: 1.");
        new Run().due("image(0)", 1).does("pass(1)").due("image(1)", 1).does("pass(1)").due("image(0)", 1).does("pass(1)").due("restore(1)", 1)
                .due("count(0)", 1).due("restore(0)", 1).due("count(0)", 2);
        nothingOfTheOlderIsLeft(0, 1);
        nothingOfTheOlderIsLeft(1, 0);
    }

    /** The older IMAGE has 48 BURSTS, the newer, in its place, has none. */
    private static void nothingOfTheOlderIsLeft(int k, int other) {
        new Run().does("image(" + other + ")").does(48, "tell(0, 0, 0, 1, 60)").does("image(" + k + ")", "pass(9)", "restore(" + k + ")")
                .row("count(*)", "0 1", "0 48").does("restore(" + other + ")", "image(" + k + ")", "pass(9)", "restore(" + k + ")")
                .row("count(*)", "0 1 7 9", "0 0 0 3").due("burst(0, 0)", -1).due("booking(0, 0, 0, 0)", -6).due("tell(0, 0, 0, 1, 1)", 0);
    }

    private static void imageIsOutside() {
        Check.says("in place of what was kept there: 1. OUTSIDE.");
        Scenes.worn().refused("image(-1)", -2).refused("image(2)", -2).refused("image(MIN)", -2).refused("image(MAX)", -2);
        new Run().refused("image(-1)", -2).refused("image(2)", -2).due("count(9)", 0);
    }

    private static void restoreAllButImages() {
        Check.says("All but IMAGES is as it was when it was kept; the IMAGE stays: 1.");
        for (String k : new String[] {"0", "1"}) {
            Run run = Scenes.worn().does("image(" + k + ")");
            List<String> kept = run.portrait();
            run.does("back(8)", "pass(200)", "rule(0, 5)", "rule(1, 1)", "rule(2, 0)", "rule(3, 60)", "rule(4, 0)", "rule(5, 0)", "line(0, 1)",
                    "line(1, 2)", "line(2, 3)", "tell(0, 0, 2, 1, 60)").due("restore(" + k + ")", 1).unchanged(kept, "what was restored");
            run.does("pass(1)").due("restore(" + k + ")", 1).unchanged(kept, "what was restored again");
        }
    }

    private static void restoreIsRefused() {
        Check.says("OUTSIDE; STATE: nothing was kept in it.");
        new Run().refused("restore(0)", -3).refused("restore(1)", -3).refused("restore(-1)", -2).refused("restore(2)", -2);
        Run.of("image(0)", "pass(5)").refused("restore(1)", -3).due("restore(0)", 1).refused("restore(1)", -3).due("count(0)", 0);
        Run.of("image(1)", "pass(5)").refused("restore(0)", -3).due("restore(1)", 1).refused("restore(0)", -3).due("count(0)", 0);
        Scenes.worn().refused("restore(-1)", -2).refused("restore(2)", -2).refused("restore(MIN)", -2).refused("restore(MAX)", -2);
    }
}
