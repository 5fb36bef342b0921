import java.util.ArrayList;
import java.util.List;
import java.util.StringJoiner;

/**
 * One object and the calls made on it. It knows them all, so that the same object can be
 * made again: an object is promised for 512 calls alone, and to look at all of it takes more.
 */
final class Run {
    private static final int PROMISED = 512;

    private final LightBursts x = new LightBursts();
    private final List<Asked> calls = new ArrayList<>();

    static Run of(String... texts) {
        return new Run().does(texts);
    }

    /** Another object with the same calls behind it. */
    Run again() {
        Run run = new Run();
        calls.forEach(run::ask);
        return run;
    }

    int ask(Asked call) {
        if (calls.size() >= PROMISED) {
            throw new IllegalStateException("the test asks more of one object than is promised");
        }
        calls.add(call);
        return call.on(x);
    }

    int ask(String text) {
        return ask(Asked.of(text));
    }

    int howManyCalls() {
        return calls.size();
    }

    /** Calls that must not be refused; what else they answer is not looked at. */
    Run does(String... texts) {
        for (String text : texts) {
            int got = ask(text);
            Check.due(message(text, got >= 0), got >= 0, true);
        }
        return this;
    }

    Run does(int times, String text) {
        for (int time = 0; time < times; time++) {
            does(text);
        }
        return this;
    }

    Run due(String text, int want) {
        return due(Asked.of(text), want);
    }

    Run due(Asked call, int want) {
        int got = ask(call);
        Check.due(message(call.toString(), got == want), got, want);
        return this;
    }

    /** The same call with each of some numbers in place of its star, as in "burst(0, *)", and all answers in a row. */
    Run row(String text, String numbers, String wants) {
        StringJoiner got = new StringJoiner(" ");
        for (String number : numbers.split(" ")) {
            got.add(Integer.toString(ask(text.replace("*", number))));
        }
        Check.due(message(text + " for " + numbers, got.toString().equals(wants)), got.toString(), wants);
        return this;
    }

    /** FATE, COLOUR, from where on, how many TICKS, LINE of a BURST. */
    Run placed(int burst, String wants) {
        return row("burst(" + burst + ", *)", "6 7 8 9 10", wants);
    }

    /** A BURST of CLASS 0 that COMES at a TICK is told; HOP is set so that it does. */
    Run tells(int out, int colour, int comes, int ticks) {
        return does(coming("tell", out, colour, comes, ticks));
    }

    Run would(int out, int colour, int comes, int ticks, int want) {
        return due(coming("would", out, colour, comes, ticks), want);
    }

    private String coming(String name, int out, int colour, int comes, int ticks) {
        int ahead = comes - ask("count(0)");
        for (int hops = 1; hops <= 5; hops++) {
            if (ahead % hops == 0 && ahead / hops <= 20 && ahead > 0) {
                does("rule(1, " + ahead / hops + ")");
                return new Asked(name, out, colour, 0, hops, ticks).toString();
            }
        }
        throw new IllegalArgumentException("no burst of class 0 can come so many ticks ahead: " + ahead);
    }

    /** A call that must be refused, however often it is made, and must change nothing. */
    Run refused(String text, int want) {
        return refused(List.of(Asked.of(text), Asked.of(text)), want);
    }

    Run refused(List<Asked> refusedCalls, int want) {
        List<String> before = portrait();
        for (Asked call : refusedCalls) {
            due(call, want);
        }
        unchanged(before, refusedCalls.toString());
        return this;
    }

    /** What was asked since a portrait was taken must have changed nothing. */
    void unchanged(List<String> before, String since) {
        List<String> after = portrait();
        Check.due("how much can be asked, behind " + since, after.size(), before.size());
        for (int i = 0; i < Math.min(before.size(), after.size()); i++) {
            if (!before.get(i).equals(after.get(i))) {
                Check.due("changed by " + since + ": what", after.get(i), before.get(i));
            }
        }
    }

    /** All that can be asked, as it is and as each IMAGE has it, with the answers. */
    List<String> portrait() {
        List<String> answers = new ArrayList<>();
        for (String first : new String[] {"count(0)", "restore(0)", "restore(1)"}) {
            Run run = again();
            answers.add(first + ": " + run.ask(first));
            List<Asked> questions = questions(run.ask("count(1)"));
            List<Integer> told = answers(first, questions);
            for (int i = 0; i < questions.size(); i++) {
                answers.add(first + ", " + questions.get(i) + ": " + told.get(i));
            }
        }
        return answers;
    }

    /** The answers to questions behind a first call, of as many objects like this one as are needed to ask them all. */
    List<Integer> answers(String first, List<Asked> questions) {
        List<Integer> answers = new ArrayList<>();
        Run run = again();
        run.ask(first);
        for (Asked question : questions) {
            if (run.howManyCalls() == PROMISED) {
                run = again();
                run.ask(first);
            }
            answers.add(run.ask(question));
        }
        return answers;
    }

    private static List<Asked> questions(int told) {
        List<Asked> all = new ArrayList<>();
        for (int what = 0; what <= 22; what++) {
            all.add(new Asked("count", what));
        }
        for (int burst = 0; burst < told; burst++) {
            for (int what = 0; what <= 10; what++) {
                all.add(new Asked("burst", burst, what));
            }
        }
        for (int out = 0; out < 2; out++) {
            for (int colour = 0; colour < 6; colour++) {
                addOfColour(all, told, out, colour);
            }
        }
        for (int k = 0; k < 3; k++) {
            for (int i = 0; i <= told; i++) {
                all.add(new Asked("held", k, i, i % 3));
            }
            for (int what = 0; what < 6; what++) {
                all.add(new Asked("tally", k, what));
            }
        }
        return all;
    }

    private static void addOfColour(List<Asked> all, int told, int out, int colour) {
        for (int i = 0; i <= told; i++) {
            all.add(new Asked("booking", out, colour, i, i % 3));
        }
        for (int i = 0; i < 4; i++) {
            all.add(new Asked("hole", out, colour, i, 0));
            all.add(new Asked("hole", out, colour, i, 1));
        }
        for (int kind = 0; kind < 3; kind++) {
            all.add(new Asked("would", out, colour, kind, 1, 7));
        }
    }

    private String message(String text, boolean right) {
        return right ? text : text + ", the last of " + calls;
    }
}
