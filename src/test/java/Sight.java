import java.util.ArrayList;
import java.util.List;
import java.util.function.Consumer;
import java.util.function.Supplier;
import java.util.function.ToIntFunction;

/**
 * What can be seen of an object, with has asked of the numbers that a test's object can hold and some
 * beyond, and the limits found by filling the line. Every question is put to an object made afresh,
 * because only 512 calls on one object are promised to be answered.
 */
final class Sight {
    private static final int LEAST_ASKED = -70;
    private static final int MOST_ASKED = 600;

    private record Question(String name, ToIntFunction<EspAntiReplay> ask) {
    }

    private static final List<Question> VERDICT_COUNTS = new ArrayList<>();
    private static final List<Question> ALL_ELSE = new ArrayList<>();

    static {
        ALL_ELSE.add(new Question("window()", EspAntiReplay::window));
        for (int i = 0; i < 4; i++) {
            int line = i;
            add("top", line, x -> x.top(line));
            add("accepted", line, x -> x.accepted(line));
            add("dead", line, x -> x.dead(line));
            add("aging", line, x -> x.aging(line));
            add("inWindow", line, x -> x.inWindow(line));
            add("lost", line, x -> x.lost(line));
            add("gap", line, x -> x.gap(line));
            add("soft limit", line, x -> softLimit(x, line));
            add("hard limit", line, x -> hardLimit(x, line));
            for (int b = 0; b < 256; b++) {
                int low = b;
                add("numberFor " + low, line, x -> x.numberFor(line, low));
            }
            for (int n = LEAST_ASKED; n <= MOST_ASKED; n++) {
                int number = n;
                add("has " + number, line, x -> x.has(line, number));
            }
            for (int v = 1; v <= 5; v++) {
                int verdict = v;
                String name = "count " + verdict + " of line " + line;
                VERDICT_COUNTS.add(new Question(name, x -> x.count(line, verdict)));
            }
        }
    }

    private Sight() {
    }

    private static void add(String name, int line, ToIntFunction<EspAntiReplay> ask) {
        ALL_ELSE.add(new Question(name + " of line " + line, ask));
    }

    /** Nothing that can be seen differs after the calls. */
    static void unchanged(Due due, String calls, Supplier<EspAntiReplay> make, Consumer<EspAntiReplay> change) {
        unchangedButCounts(due, calls, make, change);
        compare(due, calls, VERDICT_COUNTS, make, change);
    }

    static void unchangedButCounts(Due due, String calls, Supplier<EspAntiReplay> make, Consumer<EspAntiReplay> change) {
        compare(due, calls, ALL_ELSE, make, change);
    }

    private static void compare(Due due, String calls, List<Question> questions,
            Supplier<EspAntiReplay> make, Consumer<EspAntiReplay> change) {
        for (Question question : questions) {
            EspAntiReplay without = make.get();
            EspAntiReplay with = make.get();
            change.accept(with);
            int want = question.ask().applyAsInt(without);
            due.is(question.name() + " after " + calls, question.ask().applyAsInt(with), want);
        }
    }

    /** The soft limit, found by keying the line anew and filling it until it ages. */
    static int softLimit(EspAntiReplay x, int line) {
        x.rekey(line);
        for (int n = 0; n <= 60; n++) {
            if (x.aging(line) == 1) return n;
            x.receive(line, n + 1, 1);
        }
        return -1;
    }

    /** The hard limit, found by keying the line anew and filling it until it dies. */
    static int hardLimit(EspAntiReplay x, int line) {
        x.rekey(line);
        for (int n = 0; n <= 60; n++) {
            if (x.dead(line) == 1) return n;
            x.receive(line, n + 1, 1);
        }
        return -1;
    }
}
