public final class EspAntiReplay {
    public static final int GOOD = 1;
    public static final int REPLAY = 2;
    public static final int EARLY = 3;
    public static final int FORGED = 4;
    public static final int DEAD = 5;

    private static final int BAD_LINE = -1;
    private static final int BAD_LOW = -2;
    private static final int BAD_STEP = -3;
    private static final int BAD_COUNT = -4;
    private static final int BAD_HARD = -2;
    private static final int BAD_SOFT = -3;
    private static final int BAD_VERDICT = -2;
    // Not -1, because a number that a packet is taken to have may be -1.
    private static final int NO_NUMBER = -1000;

    private static final int LINES = 4;
    private static final int VERDICTS = 5;
    private static final int LEAST_WINDOW = 4;
    private static final int MOST_WINDOW = 64;
    private static final int MOST_STEP = 64;
    private static final int MOST_BURST = 40;
    private static final int MOST_HARD = 60;
    private static final int FIRST_SOFT = 40;
    private static final int FIRST_HARD = 60;
    private static final int LOW_MASK = 255;

    private static final int ALL_NUMBERS = LINES * MOST_HARD;
    private static final int ALL_VERDICTS = LINES * VERDICTS;

    private final int width;
    // Each line has MOST_HARD places; only its first held[line] places count.
    private final int[] numbers = new int[ALL_NUMBERS];
    private final int[] held = new int[LINES];
    private final int[] greatest = new int[LINES];
    private final int[] softLimit = new int[LINES];
    private final int[] hardLimit = new int[LINES];
    private final int[] verdictCounts = new int[ALL_VERDICTS];

    public EspAntiReplay(int window) {
        width = window < LEAST_WINDOW ? LEAST_WINDOW : window > MOST_WINDOW ? MOST_WINDOW : window;
        for (int line = 0; line < LINES; line++) {
            softLimit[line] = FIRST_SOFT;
            hardLimit[line] = FIRST_HARD;
        }
    }

    public int window() {
        return width;
    }

    public int receive(int line, int low, int proof) {
        if (!isLine(line)) return BAD_LINE;
        if (!isLow(low)) return BAD_LOW;
        return takePacket(line, low, proof != 0);
    }

    public int burst(int line, int low, int step, int count) {
        if (!isLine(line)) return BAD_LINE;
        if (!isLow(low)) return BAD_LOW;
        if (step < -MOST_STEP || step > MOST_STEP) return BAD_STEP;
        if (count < 1 || count > MOST_BURST) return BAD_COUNT;
        int good = 0;
        for (int i = 0; i < count; i++) {
            int verdict = takePacket(line, (low + i * step) & LOW_MASK, true);
            if (verdict == GOOD) good++;
        }
        return good;
    }

    public int rekey(int line) {
        if (!isLine(line)) return BAD_LINE;
        int before = held[line];
        held[line] = 0;
        greatest[line] = 0;
        return before;
    }

    public int limits(int line, int soft, int hard) {
        if (!isLine(line)) return BAD_LINE;
        if (hard < 1 || hard > MOST_HARD) return BAD_HARD;
        if (soft < 0 || soft > hard) return BAD_SOFT;
        softLimit[line] = soft;
        hardLimit[line] = hard;
        return isDead(line) ? 1 : 0;
    }

    public int top(int line) {
        return isLine(line) ? greatest[line] : BAD_LINE;
    }

    public int accepted(int line) {
        return isLine(line) ? held[line] : BAD_LINE;
    }

    public int dead(int line) {
        if (!isLine(line)) return BAD_LINE;
        return isDead(line) ? 1 : 0;
    }

    public int aging(int line) {
        if (!isLine(line)) return BAD_LINE;
        return held[line] >= softLimit[line] ? 1 : 0;
    }

    public int count(int line, int verdict) {
        if (!isLine(line)) return BAD_LINE;
        if (verdict < GOOD || verdict > DEAD) return BAD_VERDICT;
        return verdictCounts[verdictPlace(line, verdict)];
    }

    public int numberFor(int line, int low) {
        if (!isLine(line) || !isLow(low)) return NO_NUMBER;
        return numberTaken(line, low);
    }

    public int has(int line, int number) {
        if (!isLine(line)) return BAD_LINE;
        return isAccepted(line, number) ? 1 : 0;
    }

    public int inWindow(int line) {
        if (!isLine(line)) return BAD_LINE;
        return held[line] - acceptedBelowWindow(line);
    }

    public int lost(int line) {
        if (!isLine(line)) return BAD_LINE;
        int below = windowStart(line) - 1;
        // While the window still reaches down to 1 or lower, nothing lies below it.
        return below < 1 ? 0 : below - acceptedBelowWindow(line);
    }

    public int gap(int line) {
        if (!isLine(line)) return BAD_LINE;
        int start = windowStart(line);
        int least = start < 1 ? 1 : start;
        for (int number = greatest[line] - 1; number >= least; number--) {
            if (!isAccepted(line, number)) return number;
        }
        return 0;
    }

    private static boolean isLine(int line) {
        return line >= 0 && line < LINES;
    }

    private static boolean isLow(int low) {
        return low >= 0 && low <= LOW_MASK;
    }

    private static int verdictPlace(int line, int verdict) {
        return line * VERDICTS + verdict - GOOD;
    }

    private boolean isDead(int line) {
        return held[line] >= hardLimit[line];
    }

    private int windowStart(int line) {
        return greatest[line] - width + 1;
    }

    private int numberTaken(int line, int low) {
        int start = windowStart(line);
        // The mask, unlike %, gives a remainder in 0 .. 255 for negative numbers too.
        return start + ((low - start) & LOW_MASK);
    }

    private boolean isAccepted(int line, int number) {
        int first = line * MOST_HARD;
        for (int i = 0; i < held[line]; i++) {
            if (numbers[first + i] == number) return true;
        }
        return false;
    }

    private int acceptedBelowWindow(int line) {
        int start = windowStart(line);
        int first = line * MOST_HARD;
        int below = 0;
        for (int i = 0; i < held[line]; i++) {
            if (numbers[first + i] < start) below++;
        }
        return below;
    }

    private int takePacket(int line, int low, boolean proven) {
        int number = numberTaken(line, low);
        int verdict = judge(line, number, proven);
        if (verdict == GOOD) accept(line, number);
        verdictCounts[verdictPlace(line, verdict)]++;
        return verdict;
    }

    private int judge(int line, int number, boolean proven) {
        if (isDead(line)) return DEAD;
        if (number < 1) return EARLY;
        if (isAccepted(line, number)) return REPLAY;
        return proven ? GOOD : FORGED;
    }

    // A place is always free here: a line that holds MOST_HARD numbers is dead under every limit.
    private void accept(int line, int number) {
        numbers[line * MOST_HARD + held[line]] = number;
        held[line]++;
        if (number > greatest[line]) greatest[line] = number;
    }
}
