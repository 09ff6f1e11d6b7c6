/** Objects in the state that a test begins with. */
final class Given {
    /** The farthest that a packet may lie above the top under every width: 256 - 64. */
    private static final int FARTHEST = 192;

    private Given() {
    }

    /** A new object whose line has accepted just these numbers, in this order. */
    static EspAntiReplay having(int width, int line, int... numbers) {
        EspAntiReplay x = new EspAntiReplay(width);
        accept(x, line, numbers);
        return x;
    }

    /** A new object whose line has accepted first, first + 1, .., last. */
    static EspAntiReplay run(int width, int line, int first, int last) {
        EspAntiReplay x = new EspAntiReplay(width);
        for (int n = first; n <= last; n++) accept(x, line, n);
        return x;
    }

    /** A new object whose line has this top, reached in as few packets as every width allows. */
    static EspAntiReplay withTop(int width, int line, int top) {
        EspAntiReplay x = new EspAntiReplay(width);
        for (int n = 0; n < top; ) {
            n = Math.min(top, n + FARTHEST);
            accept(x, line, n);
        }
        return x;
    }

    static void accept(EspAntiReplay x, int line, int... numbers) {
        for (int n : numbers) {
            int verdict = x.receive(line, Math.floorMod(n, 256), 1);
            if (verdict != EspAntiReplay.GOOD || x.has(line, n) != 1) {
                throw new IllegalStateException("setting up: " + n + " on line " + line + " had verdict " + verdict);
            }
        }
    }

    /** Every line in another state: gaps and all live verdicts; dead; keyed anew and aging; new with limits. */
    static EspAntiReplay busy() {
        EspAntiReplay x = having(8, 0, 1, 3, 4, 10, 200, 258, 255);
        x.receive(0, 258 & 255, 1);
        x.receive(0, 257 & 255, 0);
        x.limits(1, 2, 3);
        x.burst(1, 255, 1, 6);
        accept(x, 2, 5, 6, 7);
        x.rekey(2);
        x.limits(2, 2, 9);
        x.receive(2, 0, 1);
        accept(x, 2, 2, 9);
        x.limits(3, 1, 7);
        return x;
    }
}
