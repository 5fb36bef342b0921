/** Objects that have been used in some way: where a refusal must change nothing, there is something to change. */
final class Scenes {
    private Scenes() {
    }

    /**
     * BURSTS of every FATE: 0, 1, 2, 7, 8 are SENT, 3 is DELAYED by LINE 0 (held on TICKS 4 to 11),
     * 4 CUT, 5 LOST, 6 TAKEN BACK; NOW is 7, and the two IMAGES, of other times, are kept.
     */
    static Run worn() {
        return Run.of("rule(0, 1)", "line(0, 9)", "line(2, 6)", "tell(0, 3, 0, 1, 8)", "tell(0, 3, 0, 1, 8)",
                "tell(0, 3, 0, 1, 8)", "tell(0, 3, 0, 1, 8)", "tell(0, 3, 0, 1, 12)", "tell(0, 3, 0, 1, 2)",
                "tell(1, 0, 1, 1, 5)", "back(6)", "image(0)", "pass(3)", "rule(3, 5)", "line(1, 30)",
                "tell(1, 5, 2, 2, 60)", "image(1)", "pass(4)", "rule(2, 9)", "tell(1, 0, 1, 2, 4)");
    }

    /** All 48 BURSTS are told, the last is TAKEN BACK; LINE 1 holds two of them; no IMAGE is kept. */
    static Run full() {
        return Run.of("rule(0, 0)", "line(1, 50)").does(24, "tell(0, 0, 0, 1, 10)").does("pass(2)")
                .does(24, "tell(1, 4, 2, 3, 20)").does("back(47)", "line(2, 4)");
    }

    /** COLOUR 0 of OUT 0 is booked from a TICK on; no other COLOUR is in reach, and nothing is CUT. */
    static Run narrow(int from, int ticks) {
        return Run.of("rule(0, 0)", "rule(4, 0)").tells(0, 0, from, ticks);
    }
}
