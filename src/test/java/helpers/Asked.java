import java.util.Arrays;
import java.util.stream.Collectors;

/** A call told as a text, as in "tell(0, 2, 0, 1, 10)"; MIN and MAX stand for the least and the greatest int. */
record Asked(String name, int... p) {
    static Asked of(String text) {
        int open = text.indexOf('(');
        String[] numbers = text.substring(open + 1, text.length() - 1).split(", ");
        return new Asked(text.substring(0, open), Arrays.stream(numbers).mapToInt(Asked::number).toArray());
    }

    private static int number(String text) {
        return switch (text) {
            case "MIN" -> Integer.MIN_VALUE;
            case "MAX" -> Integer.MAX_VALUE;
            default -> Integer.parseInt(text);
        };
    }

    int on(LightBursts x) {
        return switch (name + p.length) {
            case "rule2" -> x.rule(p[0], p[1]);
            case "line2" -> x.line(p[0], p[1]);
            case "pass1" -> x.pass(p[0]);
            case "tell5" -> x.tell(p[0], p[1], p[2], p[3], p[4]);
            case "would5" -> x.would(p[0], p[1], p[2], p[3], p[4]);
            case "back1" -> x.back(p[0]);
            case "burst2" -> x.burst(p[0], p[1]);
            case "booking4" -> x.booking(p[0], p[1], p[2], p[3]);
            case "held3" -> x.held(p[0], p[1], p[2]);
            case "busy4" -> x.busy(p[0], p[1], p[2], p[3]);
            case "free3" -> x.free(p[0], p[1], p[2]);
            case "next4" -> x.next(p[0], p[1], p[2], p[3]);
            case "hole4" -> x.hole(p[0], p[1], p[2], p[3]);
            case "tally2" -> x.tally(p[0], p[1]);
            case "count1" -> x.count(p[0]);
            case "image1" -> x.image(p[0]);
            case "restore1" -> x.restore(p[0]);
            default -> throw new IllegalArgumentException("no such call: " + this);
        };
    }

    @Override
    public String toString() {
        return Arrays.stream(p).mapToObj(Integer::toString).collect(Collectors.joining(", ", name + "(", ")"));
    }
}
