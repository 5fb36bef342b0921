import java.util.ArrayList;
import java.util.LinkedHashMap;
import java.util.List;
import java.util.Map;
import java.util.StringJoiner;

/**
 * What calls show of an object, in rows: a call with a star, as in "burst(0, *)", and its
 * answers for all numbers in place of the star. Two of these, of before a call and of behind
 * it, tell what the call has changed, and that it has changed nothing else.
 */
final class Shown {
    /** As many BURSTS, BOOKINGS, VOIDS as the scenes of the tests have, and one more. */
    private static final int BURSTS = 6;
    private static final int BOOKINGS = 5;

    private static final Map<String, String> ROWS = rows();

    private Shown() {
    }

    private static Map<String, String> rows() {
        Map<String, String> rows = new LinkedHashMap<>();
        rows.put("count(*)", "0 1 2 3 4 5 6 7 8 9");
        rows.put("count(1*)", "0 1 2 3 4 5");
        rows.put("count(2*)", "0 1 2");
        for (int burst = 0; burst < BURSTS; burst++) {
            rows.put("burst(" + burst + ", *)", "0 1 2 3 4 5 6 7 8 9 10");
        }
        for (int k = 0; k < 3; k++) {
            rows.put("tally(" + k + ", *)", "0 1 2 3 4 5");
            for (int i = 0; i < 3; i++) {
                rows.put("held(" + k + ", " + i + ", *)", "0 1 2");
            }
        }
        for (int out = 0; out < 2; out++) {
            rows.put("free(" + out + ", *, 10)", "0 4 14 24 34");
            for (int colour = 0; colour < 6; colour++) {
                addOfColour(rows, out + ", " + colour + ", ");
            }
        }
        return rows;
    }

    private static void addOfColour(Map<String, String> rows, String where) {
        for (int i = 0; i < BOOKINGS; i++) {
            rows.put("booking(" + where + i + ", *)", "0 1 2");
            rows.put("hole(" + where + i + ", *)", "0 1");
        }
        rows.put("busy(" + where + "*, 10)", "0 4 14 24 34");
        rows.put("next(" + where + "0, *)", "4 5 10 20");
        for (int kind = 0; kind < 3; kind++) {
            rows.put("would(" + where + kind + ", 1, *)", "2 9 13");
        }
    }

    /** All rows with their answers. */
    static Map<String, String> by(Run run) {
        return behind(run, "count(0)");
    }

    /** All rows with the answers that they have behind a call, which is made of another object like this one. */
    static Map<String, String> behind(Run run, String first) {
        List<Integer> answers = run.answers(first, questions());
        Map<String, String> shown = new LinkedHashMap<>();
        int at = 0;
        for (Map.Entry<String, String> row : ROWS.entrySet()) {
            StringJoiner joined = new StringJoiner(" ");
            for (int i = row.getValue().split(" ").length; i > 0; i--) {
                joined.add(answers.get(at++).toString());
            }
            shown.put(row.getKey(), joined.toString());
        }
        return shown;
    }

    /** All calls of all rows. */
    static List<Asked> questions() {
        List<Asked> questions = new ArrayList<>();
        ROWS.forEach((text, numbers) -> {
            for (String number : numbers.split(" ")) {
                questions.add(Asked.of(text.replace("*", number)));
            }
        });
        return questions;
    }

    /** Some rows are as told, as in "count(2*): 0 20 0", all others as they were. */
    static void due(String what, Map<String, String> got, Map<String, String> before, String... told) {
        Map<String, String> want = new LinkedHashMap<>(before);
        for (String row : told) {
            int colon = row.indexOf(": ");
            String text = row.substring(0, colon);
            Check.due(what + ": " + text + " is one of the rows", ROWS.containsKey(text), true);
            Check.due(what + ": " + text + " is another row than before", row.substring(colon + 2).equals(before.get(text)), false);
            want.put(text, row.substring(colon + 2));
        }
        want.forEach((text, answers) -> Check.due(what + ": " + text, got.get(text), answers));
    }
}
