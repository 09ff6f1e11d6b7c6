/** Long mixed runs of calls, answered by the class and by the model, which must agree. */
public final class ModelTest {
    private static final int RUNS = 2000;
    private static final int CALLS = 512;

    private static final Due due = new Due();
    private static long seed;

    public static void main(String[] args) {
        for (int run = 0; run < RUNS; run++) compare(run);
        due.finish();
    }

    /** The run's number is the seed, so that every run can be told again. */
    private static void compare(int run) {
        seed = run * 7919L + 1;
        due.part("run " + run);
        int window = run % 3 == 0 ? pick(-5, 75) : run % 3 == 1 ? pick(4, 9) : pick(60, 64);
        EspAntiReplay x = new EspAntiReplay(window);
        Model m = new Model(window);
        // Few lines in use let a run reach the lifetimes' ends.
        int lines = pick(1, 4);
        for (int call = 0; call < CALLS; call++) {
            int line = pick(0, 29) == 0 ? odd() : pick(0, lines - 1);
            if (pick(0, 2) == 0) change(x, m, line);
            else ask(x, m, line);
        }
    }

    private static void change(EspAntiReplay x, Model m, int line) {
        int low = low(m, line);
        int kind = pick(0, 19);
        if (kind < 11) {
            int proof = pick(0, 4) == 0 ? 0 : pick(0, 4) == 0 ? odd() : 1;
            due.is("receive(" + line + ", " + low + ", " + proof + ")",
                x.receive(line, low, proof), m.receive(line, low, proof));
        } else if (kind < 16) {
            int step = pick(0, 9) == 0 ? odd() : pick(0, 2) == 0 ? pick(-66, 66) : pick(-3, 3);
            int count = pick(0, 9) == 0 ? odd() : pick(0, 4) == 0 ? pick(0, 42) : pick(1, 6);
            due.is("burst(" + line + ", " + low + ", " + step + ", " + count + ")",
                x.burst(line, low, step, count), m.burst(line, low, step, count));
        } else if (kind < 18) {
            int hard = pick(0, 9) == 0 ? odd() : pick(0, 1) == 0 ? 60 : pick(0, 62);
            int soft = pick(0, 9) == 0 ? odd() : pick(-1, 61);
            due.is("limits(" + line + ", " + soft + ", " + hard + ")",
                x.limits(line, soft, hard), m.limits(line, soft, hard));
        } else if (pick(0, 2) == 0) {
            due.is("rekey(" + line + ")", x.rekey(line), m.rekey(line));
        }
    }

    private static void ask(EspAntiReplay x, Model m, int line) {
        switch (pick(0, 10)) {
            case 0 -> due.is("window()", x.window(), m.window());
            case 1 -> due.is("top(" + line + ")", x.top(line), m.top(line));
            case 2 -> due.is("accepted(" + line + ")", x.accepted(line), m.accepted(line));
            case 3 -> due.is("dead(" + line + ")", x.dead(line), m.dead(line));
            case 4 -> due.is("aging(" + line + ")", x.aging(line), m.aging(line));
            case 5 -> {
                int verdict = pick(0, 9) == 0 ? odd() : pick(0, 6);
                due.is("count(" + line + ", " + verdict + ")", x.count(line, verdict), m.count(line, verdict));
            }
            case 6 -> {
                int low = low(m, line);
                due.is("numberFor(" + line + ", " + low + ")", x.numberFor(line, low), m.numberFor(line, low));
            }
            case 7 -> {
                int number = pick(0, 9) == 0 ? odd() : m.top(line) + pick(-80, 5);
                due.is("has(" + line + ", " + number + ")", x.has(line, number), m.has(line, number));
            }
            case 8 -> due.is("inWindow(" + line + ")", x.inWindow(line), m.inWindow(line));
            case 9 -> due.is("lost(" + line + ")", x.lost(line), m.lost(line));
            default -> due.is("gap(" + line + ")", x.gap(line), m.gap(line));
        }
    }

    /** A low part, most often one near the top or the window's least number. */
    private static int low(Model m, int line) {
        int kind = pick(0, 19);
        if (kind == 0) return odd();
        if (kind < 5) return pick(0, 255);
        int near = kind < 13 ? m.top(line) + pick(-4, 4) : m.top(line) - m.window() + pick(-2, 3);
        return Math.floorMod(near, 256);
    }

    /** A number that some methods refuse. */
    private static int odd() {
        int[] odds = {-1, 4, 6, 41, 61, 65, -65, 255, 256, -256, Integer.MIN_VALUE, Integer.MAX_VALUE};
        return odds[pick(0, odds.length - 1)];
    }

    private static int pick(int least, int most) {
        seed = seed * 6364136223846793005L + 1442695040888963407L;
        return least + (int) ((seed >>> 33) % (most - least + 1));
    }
}
