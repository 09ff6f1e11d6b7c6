/** Each promise of the document by itself: ordinary inputs, its edges, and wrong inputs. */
public final class PromisesTest {
    private static final int[] BAD_LINES = {-1, 4, 5, Integer.MIN_VALUE, Integer.MAX_VALUE};
    private static final int[] BAD_LOWS = {-1, 256, 300, Integer.MIN_VALUE, Integer.MAX_VALUE};

    private static final Due due = new Due();

    public static void main(String[] args) {
        terms();
        promise1NewObject();
        promise2Window();
        promise3Receive();
        promise3Order();
        promise3RefusedChangesNothing();
        promise4Burst();
        promise4BurstRefused();
        promise5Rekey();
        promise6Limits();
        promise6LimitsRefused();
        promise7Top();
        promise8Accepted();
        promise9Dead();
        promise10Aging();
        promise11Count();
        promise12NumberFor();
        promise13Has();
        promise14InWindow();
        promise15Lost();
        promise16Gap();
        due.finish();
    }

    /** A line that has accepted the numbers first, first + 1, .., last; all below 256. */
    private static EspAntiReplay withRun(int window, int line, int first, int last) {
        EspAntiReplay x = new EspAntiReplay(window);
        for (int n = first; n <= last; n++) x.receive(line, n, 1);
        return x;
    }

    private static void terms() {
        due.part("constants");
        due.is("GOOD", EspAntiReplay.GOOD, 1);
        due.is("REPLAY", EspAntiReplay.REPLAY, 2);
        due.is("EARLY", EspAntiReplay.EARLY, 3);
        due.is("FORGED", EspAntiReplay.FORGED, 4);
        due.is("DEAD", EspAntiReplay.DEAD, 5);
    }

    private static void promise1NewObject() {
        due.part("promise 1");
        int[][] widths = {
            {Integer.MIN_VALUE, 4}, {-1, 4}, {0, 4}, {3, 4}, {4, 4}, {5, 5}, {32, 32},
            {63, 63}, {64, 64}, {65, 64}, {1000, 64}, {Integer.MAX_VALUE, 64}
        };
        for (int[] w : widths) {
            EspAntiReplay x = new EspAntiReplay(w[0]);
            due.is("new(" + w[0] + ").window()", x.window(), w[1]);
            // The width must hold in the reckoning too, not only in the answer.
            due.is("numberFor of the least number, new(" + w[0] + ")", x.numberFor(0, 257 - w[1]), 1 - w[1]);
            due.is("numberFor one below it, new(" + w[0] + ")", x.numberFor(0, 256 - w[1]), 256 - w[1]);
        }
        EspAntiReplay x = new EspAntiReplay(8);
        for (int line = 0; line < 4; line++) {
            due.is("top", x.top(line), 0);
            due.is("accepted", x.accepted(line), 0);
            due.is("dead", x.dead(line), 0);
            due.is("aging", x.aging(line), 0);
            due.is("inWindow", x.inWindow(line), 0);
            due.is("lost", x.lost(line), 0);
            due.is("gap", x.gap(line), 0);
            due.is("has 0", x.has(line, 0), 0);
            for (int v = 1; v <= 5; v++) due.is("count " + v, x.count(line, v), 0);
        }
    }

    private static void promise2Window() {
        due.part("promise 2");
        EspAntiReplay x = new EspAntiReplay(17);
        due.is("window()", x.window(), 17);
        x.burst(0, 1, 30, 40);
        x.rekey(0);
        x.limits(0, 1, 1);
        due.is("window() later", x.window(), 17);
    }

    private static void promise3Receive() {
        due.part("promise 3");
        EspAntiReplay x = new EspAntiReplay(8);
        due.is("0 on a new line", x.receive(0, 0, 1), 3);
        due.is("249, which is -7", x.receive(0, 249, 1), 3);
        due.is("1", x.receive(0, 1, 1), 1);
        due.is("1 again", x.receive(0, 1, 1), 2);
        due.is("10 without proof", x.receive(0, 10, 0), 4);
        due.is("10 with proof -1", x.receive(0, 10, -1), 1);
        due.is("11 with proof MIN", x.receive(0, 11, Integer.MIN_VALUE), 1);
        due.is("4, the window's least", x.receive(0, 4, 1), 1);
        due.is("top stays", x.top(0), 11);
        due.is("3, below the window, is 259", x.receive(0, 3, 1), 1);
        due.is("top", x.top(0), 259);
        due.is("255", x.receive(0, 255, 1), 1);
        due.is("252, the window's least", x.receive(0, 252, 1), 1);
        due.is("top stays", x.top(0), 259);
        due.is("251 is 507", x.receive(0, 251, 1), 1);
        due.is("top", x.top(0), 507);
        due.is("line 1 is apart", x.receive(1, 1, 1), 1);
        due.is("top(1)", x.top(1), 1);
        due.is("line 3", x.receive(3, 255, 1), 3);
    }

    private static void promise3Order() {
        due.part("promise 3, order of verdicts");
        EspAntiReplay x = new EspAntiReplay(8);
        due.is("EARLY before FORGED", x.receive(2, 0, 0), 3);
        x.receive(2, 5, 1);
        due.is("REPLAY before FORGED", x.receive(2, 5, 0), 2);
        due.is("EARLY while the window reaches below 1", x.receive(2, 254, 1), 3);
        x.limits(2, 0, 1);
        due.is("DEAD before EARLY", x.receive(2, 254, 1), 5);
        due.is("DEAD before REPLAY", x.receive(2, 5, 1), 5);
        due.is("DEAD before FORGED", x.receive(2, 6, 0), 5);
        due.is("DEAD before GOOD", x.receive(2, 6, 1), 5);
        due.is("accepted", x.accepted(2), 1);
        due.is("top", x.top(2), 5);
    }

    private static void promise3RefusedChangesNothing() {
        due.part("promise 3, refused");
        EspAntiReplay x = new EspAntiReplay(8);
        for (int line : BAD_LINES) {
            due.is("receive on line " + line, x.receive(line, 1, 1), -1);
            due.is("receive, all bad, on line " + line, x.receive(line, 256, 1), -1);
        }
        for (int low : BAD_LOWS) due.is("receive of " + low, x.receive(0, low, 1), -2);
        nothingHappened(x);
        due.is("receive of 255", x.receive(0, 255, 1), 3);
    }

    private static void nothingHappened(EspAntiReplay x) {
        for (int line = 0; line < 4; line++) {
            due.is("top after", x.top(line), 0);
            due.is("accepted after", x.accepted(line), 0);
            for (int v = 1; v <= 5; v++) due.is("count after, " + v, x.count(line, v), 0);
        }
    }

    private static void promise4Burst() {
        due.part("promise 4");
        EspAntiReplay x = new EspAntiReplay(8);
        due.is("1, 2, .. 10", x.burst(0, 1, 1, 10), 10);
        due.is("top", x.top(0), 10);
        due.is("step 0: one new, the rest replays", x.burst(0, 20, 0, 5), 1);
        due.is("count REPLAY", x.count(0, 2), 4);
        due.is("20 down to 13, 20 again known", x.burst(0, 20, -1, 8), 7);
        due.is("top", x.top(0), 20);
        due.is("least count", x.burst(0, 21, 64, 1), 1);

        EspAntiReplay y = new EspAntiReplay(64);
        due.is("step 64 past 255", y.burst(1, 193, 64, 4), 3);
        due.is("193, which is -63, was early", y.count(1, 3), 1);
        due.is("top", y.top(1), 129);
        due.is("has 65", y.has(1, 65), 1);
        due.is("has 193", y.has(1, 193), 0);

        EspAntiReplay z = new EspAntiReplay(4);
        due.is("step -64 below 0", z.burst(2, 100, -64, 3), 3);
        due.is("100, 36 + 256, 228 + 256", z.top(2), 484);
        due.is("40 packets", z.burst(3, 1, 1, 40), 40);
        due.is("the line dies within", z.burst(3, 41, 1, 40), 20);
        due.is("count DEAD", z.count(3, 5), 20);
        due.is("count GOOD", z.count(3, 1), 60);
        due.is("top", z.top(3), 60);
    }

    private static void promise4BurstRefused() {
        due.part("promise 4, refused");
        EspAntiReplay x = new EspAntiReplay(8);
        for (int line : BAD_LINES) due.is("burst on line " + line, x.burst(line, 256, 65, 0), -1);
        for (int low : BAD_LOWS) due.is("burst of " + low, x.burst(0, low, 65, 0), -2);
        int[] steps = {-65, 65, Integer.MIN_VALUE, Integer.MAX_VALUE};
        for (int step : steps) due.is("burst by " + step, x.burst(0, 1, step, 0), -3);
        int[] counts = {0, -1, 41, Integer.MIN_VALUE, Integer.MAX_VALUE};
        for (int count : counts) due.is("burst, count " + count, x.burst(0, 1, 1, count), -4);
        for (int line : BAD_LINES) due.is("else good, line " + line, x.burst(line, 1, 1, 1), -1);
        for (int low : BAD_LOWS) due.is("else good, low " + low, x.burst(0, low, 1, 1), -2);
        for (int step : steps) due.is("else good, step " + step, x.burst(0, 1, step, 1), -3);
        nothingHappened(x);
    }

    private static void promise5Rekey() {
        due.part("promise 5");
        EspAntiReplay x = new EspAntiReplay(8);
        x.burst(0, 1, 1, 5);
        x.burst(1, 1, 1, 6);
        x.receive(0, 1, 1);
        x.limits(0, 2, 5);
        due.is("dead before", x.dead(0), 1);
        due.is("rekey", x.rekey(0), 5);
        due.is("top", x.top(0), 0);
        due.is("accepted", x.accepted(0), 0);
        due.is("dead", x.dead(0), 0);
        due.is("aging", x.aging(0), 0);
        due.is("has 3", x.has(0, 3), 0);
        due.is("gap", x.gap(0), 0);
        due.is("lost", x.lost(0), 0);
        due.is("inWindow", x.inWindow(0), 0);
        due.is("line 1 keeps", x.accepted(1), 6);
        due.is("counts stay", x.count(0, 1), 5);
        due.is("rekey again", x.rekey(0), 0);
        due.is("a number of the old key", x.receive(0, 3, 1), 1);
        due.is("an old number not yet come", x.has(0, 1), 0);
        x.receive(0, 4, 1);
        due.is("the limits stay: aging", x.aging(0), 1);
        due.is("the limits stay: dead", x.burst(0, 5, 1, 9), 3);
        for (int line : BAD_LINES) due.is("rekey " + line, x.rekey(line), -1);
        due.is("accepted after", x.accepted(0), 5);
    }

    private static void promise6Limits() {
        due.part("promise 6");
        EspAntiReplay x = withRun(8, 0, 1, 10);
        due.is("hard above", x.limits(0, 0, 11), 0);
        due.is("hard reached", x.limits(0, 0, 10), 1);
        due.is("hard passed", x.limits(0, 0, 9), 1);
        due.is("receive when dead", x.receive(0, 20, 1), 5);
        due.is("alive again", x.limits(0, 11, 12), 0);
        due.is("not aging", x.aging(0), 0);
        due.is("two more", x.burst(0, 11, 1, 5), 2);
        due.is("another line keeps its limits", x.burst(1, 1, 1, 40), 40);
        due.is("greatest limits", x.limits(0, 60, 60), 0);
        due.is("least limits", x.limits(2, 0, 1), 0);
        due.is("one passes", x.burst(2, 1, 1, 3), 1);
        due.is("soft equal to hard", x.limits(3, 1, 1), 0);
    }

    private static void promise6LimitsRefused() {
        due.part("promise 6, refused");
        EspAntiReplay x = withRun(8, 0, 1, 5);
        x.limits(0, 5, 6);
        for (int line : BAD_LINES) due.is("limits of line " + line, x.limits(line, -1, 0), -1);
        int[] hards = {0, -1, 61, Integer.MIN_VALUE, Integer.MAX_VALUE};
        for (int hard : hards) {
            due.is("hard " + hard, x.limits(0, 0, hard), -2);
            due.is("hard " + hard + ", soft bad", x.limits(0, -1, hard), -2);
        }
        int[] softs = {-1, 4, 60, Integer.MIN_VALUE, Integer.MAX_VALUE};
        for (int soft : softs) due.is("soft " + soft, x.limits(0, soft, 3), -3);
        due.is("aging as before", x.aging(0), 1);
        due.is("dead as before", x.dead(0), 0);
        due.is("one more as before", x.burst(0, 6, 1, 3), 1);
        EspAntiReplay y = withRun(8, 0, 1, 5);
        y.limits(0, 9, 8);
        y.limits(0, 1, 61);
        due.is("not aging", y.aging(0), 0);
        due.is("first hard limit stays", y.burst(0, 6, 1, 40) + y.burst(0, 46, 1, 40), 55);
    }

    private static void promise7Top() {
        due.part("promise 7");
        EspAntiReplay x = new EspAntiReplay(8);
        x.receive(3, 9, 1);
        due.is("top", x.top(3), 9);
        x.receive(3, 5, 1);
        due.is("a lesser number", x.top(3), 9);
        x.receive(3, 20, 0);
        due.is("a forged number", x.top(3), 9);
        x.receive(3, 0, 1);
        due.is("0 is 256", x.top(3), 256);
        due.is("other line", x.top(2), 0);
        for (int line : BAD_LINES) due.is("top of " + line, x.top(line), -1);
        EspAntiReplay far = new EspAntiReplay(4);
        far.burst(0, 252, -4, 40);
        far.burst(0, 92, -4, 20);
        due.is("the farthest: 60 times 252", far.top(0), 60 * 252);
    }

    private static void promise8Accepted() {
        due.part("promise 8");
        EspAntiReplay x = new EspAntiReplay(8);
        x.burst(1, 1, 2, 7);
        x.receive(1, 13, 1);
        x.receive(1, 50, 0);
        due.is("accepted", x.accepted(1), 7);
        x.burst(1, 100, 1, 40);
        x.burst(1, 140, 1, 40);
        due.is("never above 60", x.accepted(1), 60);
        due.is("other line", x.accepted(0), 0);
        for (int line : BAD_LINES) due.is("accepted of " + line, x.accepted(line), -1);
    }

    private static void promise9Dead() {
        due.part("promise 9");
        EspAntiReplay x = withRun(8, 2, 1, 59);
        due.is("59 accepted", x.dead(2), 0);
        x.receive(2, 60, 1);
        due.is("60 accepted", x.dead(2), 1);
        due.is("other line", x.dead(1), 0);
        x.rekey(2);
        due.is("keyed anew", x.dead(2), 0);
        for (int line : BAD_LINES) due.is("dead of " + line, x.dead(line), -1);
    }

    private static void promise10Aging() {
        due.part("promise 10");
        EspAntiReplay x = withRun(8, 2, 1, 39);
        due.is("39 accepted", x.aging(2), 0);
        x.receive(2, 40, 1);
        due.is("40 accepted", x.aging(2), 1);
        due.is("other line", x.aging(1), 0);
        x.limits(2, 0, 5);
        due.is("dead and aging", x.dead(2) * 10 + x.aging(2), 11);
        x.rekey(2);
        due.is("soft 0 ages at once", x.aging(2), 1);
        for (int line : BAD_LINES) due.is("aging of " + line, x.aging(line), -1);
    }

    private static void promise11Count() {
        due.part("promise 11");
        EspAntiReplay x = new EspAntiReplay(8);
        x.limits(1, 1, 5);
        x.receive(1, 0, 1);
        x.receive(1, 2, 0);
        x.receive(1, 2, 0);
        x.burst(1, 2, 0, 4);
        x.burst(1, 3, 1, 9);
        int[] due1 = {5, 3, 1, 2, 5};
        for (int v = 1; v <= 5; v++) due.is("count " + v, x.count(1, v), due1[v - 1]);
        x.rekey(1);
        x.receive(1, 2, 1);
        due.is("over all keys", x.count(1, 1), 6);
        for (int v = 1; v <= 5; v++) {
            due.is("line 0, " + v, x.count(0, v), 0);
            due.is("line 2, " + v, x.count(2, v), 0);
        }
        for (int line : BAD_LINES) due.is("count of " + line, x.count(line, 0), -1);
        int[] verdicts = {0, 6, -1, Integer.MIN_VALUE, Integer.MAX_VALUE};
        for (int v : verdicts) due.is("count of verdict " + v, x.count(3, v), -2);
        EspAntiReplay y = new EspAntiReplay(8);
        for (int i = 0; i < 511; i++) y.burst(3, 0, 0, 40);
        due.is("the most in 512 calls", y.count(3, 3), 511 * 40);
    }

    private static void promise12NumberFor() {
        due.part("promise 12");
        EspAntiReplay x = new EspAntiReplay(64);
        due.is("0", x.numberFor(0, 0), 0);
        due.is("255 is -1", x.numberFor(0, 255), -1);
        due.is("193 is -63", x.numberFor(0, 193), -63);
        due.is("192", x.numberFor(0, 192), 192);
        x.receive(0, 100, 1);
        due.is("37, the window's least", x.numberFor(0, 37), 37);
        due.is("36", x.numberFor(0, 36), 292);
        due.is("100, though accepted", x.numberFor(0, 100), 100);
        x.limits(0, 0, 1);
        due.is("on a dead line", x.numberFor(0, 101), 101);
        due.is("other line", x.numberFor(1, 255), -1);
        for (int line : BAD_LINES) due.is("line " + line, x.numberFor(line, 0), -1000);
        for (int low : BAD_LOWS) due.is("low " + low, x.numberFor(0, low), -1000);
        due.is("both bad", x.numberFor(4, 256), -1000);
        for (int v = 3; v <= 5; v++) due.is("asking counts nothing", x.count(0, v), 0);
    }

    private static void promise13Has() {
        due.part("promise 13");
        EspAntiReplay x = new EspAntiReplay(4);
        x.receive(0, 7, 1);
        x.receive(0, 250, 1);
        x.receive(0, 9, 0);
        due.is("7, long below the window", x.has(0, 7), 1);
        due.is("250", x.has(0, 250), 1);
        due.is("forged 9", x.has(0, 9), 0);
        due.is("same low part as 7", x.has(0, 7 + 256), 0);
        due.is("same low part as 250", x.has(0, -6), 0);
        int[] others = {0, -1, 8, 249, 251, Integer.MIN_VALUE, Integer.MAX_VALUE};
        for (int n : others) due.is("has " + n, x.has(0, n), 0);
        due.is("other line", x.has(1, 7), 0);
        for (int line : BAD_LINES) due.is("has of line " + line, x.has(line, 7), -1);
        EspAntiReplay y = withRun(4, 3, 1, 60);
        for (int n = 1; n <= 60; n++) due.is("has " + n + " of 60", y.has(3, n), 1);
        due.is("has 61 of 60", y.has(3, 61), 0);
    }

    private static void promise14InWindow() {
        due.part("promise 14");
        EspAntiReplay x = withRun(8, 0, 1, 8);
        due.is("a full window", x.inWindow(0), 8);
        x.receive(0, 9, 1);
        due.is("1 has left", x.inWindow(0), 8);
        x.receive(0, 16, 1);
        due.is("9 is the least", x.inWindow(0), 2);
        x.receive(0, 17, 1);
        due.is("9 has left", x.inWindow(0), 2);
        x.receive(0, 12, 1);
        due.is("within", x.inWindow(0), 3);
        due.is("a window not yet full", withRun(64, 1, 1, 3).inWindow(1), 3);
        due.is("other line", x.inWindow(1), 0);
        for (int line : BAD_LINES) due.is("inWindow of " + line, x.inWindow(line), -1);
    }

    private static void promise15Lost() {
        due.part("promise 15");
        EspAntiReplay x = new EspAntiReplay(8);
        x.receive(0, 8, 1);
        due.is("top 8: the window begins at 1", x.lost(0), 0);
        x.receive(0, 9, 1);
        due.is("top 9: 1 is lost", x.lost(0), 1);
        x.receive(0, 2, 1);
        due.is("2 is in the window", x.lost(0), 1);
        x.receive(0, 20, 1);
        due.is("1 .. 12 but for 2, 8, 9", x.lost(0), 9);
        x.receive(0, 1, 1);
        due.is("top 257: 1 .. 249 but for 2, 8, 9, 20", x.lost(0), 245);
        due.is("none lost in order", withRun(4, 1, 1, 50).lost(1), 0);
        due.is("other line", x.lost(1), 0);
        for (int line : BAD_LINES) due.is("lost of " + line, x.lost(line), -1);
    }

    private static void promise16Gap() {
        due.part("promise 16");
        EspAntiReplay x = new EspAntiReplay(4);
        x.receive(0, 1, 1);
        due.is("top 1", x.gap(0), 0);
        x.receive(0, 3, 1);
        due.is("2 is open", x.gap(0), 2);
        x.receive(0, 2, 1);
        due.is("all there", x.gap(0), 0);
        x.receive(0, 6, 1);
        due.is("the greatest of 4, 5", x.gap(0), 5);
        x.receive(0, 5, 1);
        due.is("4", x.gap(0), 4);
        x.receive(0, 7, 1);
        due.is("4 is the window's least", x.gap(0), 4);
        x.receive(0, 8, 1);
        due.is("4 is below the window", x.gap(0), 0);
        EspAntiReplay y = new EspAntiReplay(64);
        y.receive(2, 2, 1);
        due.is("1 is the least there is", y.gap(2), 1);
        due.is("other line", y.gap(1), 0);
        for (int line : BAD_LINES) due.is("gap of " + line, y.gap(line), -1);
    }
}
