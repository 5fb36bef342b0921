/** Promises 17 and 18: image, restore. */
public final class ImagesTest {
    private static final int[] WRONG = {-1, 2, Integer.MIN_VALUE, Integer.MAX_VALUE};

    public static void main(String[] args) {
        for (int k = 0; k < 2; k++) {
            restoresAllButImages(k);
            imageIsNotTouchedByWhatFollows(k);
            imageReplacesWhatWasKept(k);
        }
        imagesAreApart();
        restoreMakesBurstsAnew();
        restoreOfANewObject();
        imageRefuses();
        restoreRefuses();
        Check.end();
    }

    private static LightBursts used() {
        LightBursts x = new LightBursts();
        x.rule(0, 0);
        x.line(1, 20);
        x.tell(0, 3, 0, 1, 10);
        x.tell(0, 3, 0, 1, 10);
        x.tell(0, 3, 0, 1, 13);
        x.tell(0, 3, 0, 1, 9);
        x.tell(1, 3, 1, 1, 7);
        return x;
    }

    private static void changeAll(LightBursts x) {
        x.back(1);
        x.rule(0, 3);
        x.rule(1, 5);
        x.rule(2, 1);
        x.rule(3, 9);
        x.rule(4, 0);
        x.rule(5, 0);
        x.line(0, 2);
        x.line(1, 3);
        x.line(2, 4);
        x.tell(0, 3, 2, 5, 10);
        x.tell(1, 3, 2, 5, 10);
        x.pass(44);
    }

    private static void restoresAllButImages(int k) {
        LightBursts x = used();
        Check.due("image", x.image(k), 1);
        String kept = Check.everything(x);
        changeAll(x);
        Check.due("all is changed", Check.everything(x).equals(kept), false);
        Check.due("restore", x.restore(k), 1);
        Check.due("restored: everything", Check.everything(x), kept);
        Check.row("restored: bookings", "4 10 14 3 24 10 -6", x.booking(0, 3, 0, 0), x.booking(0, 3, 0, 1),
                x.booking(0, 3, 1, 0), x.booking(0, 3, 1, 1), x.booking(0, 3, 2, 0), x.booking(0, 3, 2, 1), x.booking(0, 3, 3, 0));
        Check.row("restored: tally", "4 42 23 1 19 42", x.tally(0, 0), x.tally(0, 1), x.tally(0, 2), x.tally(0, 3),
                x.tally(0, 4), x.tally(0, 5));
    }

    /** What is done behind a restore must not reach the image either. */
    private static void imageIsNotTouchedByWhatFollows(int k) {
        LightBursts x = used();
        x.image(k);
        String kept = Check.everything(x);
        for (int round = 0; round < 3; round++) {
            changeAll(x);
            Check.due("restore again", x.restore(k), 1);
            Check.due("restored again: everything", Check.everything(x), kept);
        }
    }

    private static void imageReplacesWhatWasKept(int k) {
        LightBursts x = used();
        x.image(k);
        changeAll(x);
        String kept = Check.everything(x);
        Check.due("image again", x.image(k), 1);
        x.pass(1);
        x.restore(k);
        Check.due("restored the newer: everything", Check.everything(x), kept);
    }

    private static void imagesAreApart() {
        LightBursts x = used();
        x.image(0);
        Check.row("the other is not kept", "1 -3", x.count(9), x.restore(1));
        x.pass(2);
        x.image(1);
        x.pass(2);
        Check.row("both", "3 1 0 1 2 1 0 3", x.count(9), x.restore(0), x.count(0), x.restore(1), x.count(0), x.restore(0),
                x.count(0), x.count(9));
        LightBursts y = new LightBursts();
        y.image(0);
        y.pass(1);
        y.image(1);
        y.restore(0);
        Check.row("images are no part of an image", "3 1 1", y.count(9), y.restore(1), y.count(0));
    }

    private static void restoreMakesBurstsAnew() {
        LightBursts x = used();
        x.image(0);
        Check.due("tell", x.tell(1, 0, 2, 1, 3), 5);
        x.restore(0);
        Check.row("it was never told", "-1 -1 63", x.burst(5, 0), x.back(5), x.free(1, 20, 3));
        Check.row("lost", "5 3", x.tell(0, 3, 0, 1, 2), x.burst(5, 6));
        x.restore(0);
        Check.row("it was never lost", "4 42 23 1 1", x.tally(0, 0), x.tally(0, 1), x.tally(0, 2), x.tally(0, 3), x.count(5));
        Check.due("tell another", x.tell(1, 1, 2, 1, 4), 5);
        Check.row("another", "1 1 4", x.burst(5, 1), x.burst(5, 7), x.burst(5, 9));
    }

    private static void restoreOfANewObject() {
        LightBursts x = new LightBursts();
        x.image(1);
        String kept = Check.everything(x);
        x.tell(0, 0, 0, 1, 1);
        changeAll(x);
        x.restore(1);
        Check.due("as new: everything", Check.everything(x), kept);
    }

    private static void imageRefuses() {
        for (int k : WRONG) {
            Check.refused(used(), "image(" + k + ")", -2, y -> y.image(k));
        }
    }

    private static void restoreRefuses() {
        Check.refused(used(), "restore(0) of nothing", -3, y -> y.restore(0));
        Check.refused(used(), "restore(1) of nothing", -3, y -> y.restore(1));
        LightBursts x = used();
        x.image(1);
        x.pass(1);
        Check.refused(x, "restore(0) of nothing still", -3, y -> y.restore(0));
        for (int k : WRONG) {
            Check.refused(used(), "restore(" + k + ")", -2, y -> y.restore(k));
        }
    }
}
