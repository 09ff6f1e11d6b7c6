import java.util.function.IntUnaryOperator;

/** Each sentence of the promises 1 to 16 that names a boundary case or a refusal; the refusals of one promise share a method. */
public final class BoundariesTest {
    // 1 << 30, taken 60 times, wraps around to 0: a place that is there.
    private static final int[] BAD_LINES = {
        -1, -4, 4, 5, 255, 256, 1 << 30, Integer.MIN_VALUE, Integer.MIN_VALUE + 1, Integer.MAX_VALUE
    };
    private static final int[] BAD_LOWS = {
        -1, -256, 256, 257, 512, 65536, Integer.MIN_VALUE, Integer.MAX_VALUE
    };
    private static final int[] BAD_STEPS = {-65, 65, -256, 256, Integer.MIN_VALUE, Integer.MAX_VALUE};
    private static final int[] BAD_COUNTS = {0, -1, 41, 256, Integer.MIN_VALUE, Integer.MAX_VALUE};
    private static final int[] BAD_HARDS = {0, -1, 61, 64, Integer.MIN_VALUE, Integer.MAX_VALUE};

    private static final Due due = new Due();

    public static void main(String[] args) {
        promise1WindowIsHeldIn4To64();
        promise2WindowNeverChanges();
        promise3Refusals();
        promise3EdgesOfLow();
        promise4Refusals();
        promise4EdgesOfArguments();
        promise4LowPartsModulo256();
        promise4OneAfterTheOther();
        promise5Refusal();
        promise5AcceptedSinceKeyedBefore();
        promise6Refusals();
        promise6EdgesOfLimits();
        promise6DeadNow();
        promise6NeverMoreThan60();
        promise7Refusal();
        promise8Refusal();
        promise8AcceptedSinceKeyed();
        promise9Refusal();
        promise10Refusal();
        promise11Refusals();
        promise11OverAllKeys();
        promise12Refusals();
        promise12MayBeLessThan1();
        promise12OnEveryLine();
        promise13Refusal();
        promise13AnyInt();
        promise13BelowTheWindow();
        promise14Refusal();
        promise14EdgesOfTheWindow();
        promise14EmptyAndFull();
        promise15Refusal();
        promise15EdgesOfTheWindow();
        promise15NoneAndAll();
        promise15NeverAcceptedAnyMore();
        promise16Refusal();
        promise16EdgesOfTheWindow();
        promise16AtLeast1();
        promise16NoneIsZero();
        due.finish();
    }

    private static void refusesBadLines(String method, IntUnaryOperator call, int refusal) {
        for (int line : BAD_LINES) due.is(method + " of line " + line, call.applyAsInt(line), refusal);
        for (int line = 0; line < 4; line++) {
            due.is(method + " of line " + line + " is not refused", call.applyAsInt(line) == refusal ? 1 : 0, 0);
        }
    }

    private static void promise1WindowIsHeldIn4To64() {
        due.part("promise 1: below 4 becomes 4, above 64 becomes 64");
        int[] small = {3, 2, 1, 0, -1, -4, -64, Integer.MIN_VALUE, Integer.MIN_VALUE + 1};
        for (int w : small) hasWidth(w, 4);
        int[] large = {65, 66, 68, 128, 256, 260, 65540, Integer.MAX_VALUE, Integer.MAX_VALUE - 1};
        for (int w : large) hasWidth(w, 64);
        for (int w = 4; w <= 64; w++) hasWidth(w, w);
    }

    private static void hasWidth(int window, int width) {
        EspAntiReplay x = new EspAntiReplay(window);
        due.is("window() of " + window, x.window(), width);
        Given.accept(x, 0, 90);
        due.is("the window's least number of " + window, x.numberFor(0, 91 - width), 91 - width);
        due.is("the number below it of " + window, x.numberFor(0, 90 - width), 90 - width + 256);
    }

    private static void promise2WindowNeverChanges() {
        due.part("promise 2: W");
        for (int width : new int[] {4, 64}) {
            EspAntiReplay x = Given.run(width, 0, 1, 60);
            due.is("after the line has died", x.window(), width);
            x.rekey(0);
            x.limits(0, 5, 5);
            x.limits(9, 5, 5);
            due.is("after rekey and limits", x.window(), width);
        }
    }

    private static void promise3Refusals() {
        due.part("promise 3: -1 if line is not good; -2 if low is not in 0 .. 255");
        EspAntiReplay x = new EspAntiReplay(8);
        for (int line : BAD_LINES) {
            due.is("line " + line, x.receive(line, 1, 1), -1);
            due.is("line " + line + " before low", x.receive(line, 256, 0), -1);
        }
        for (int low : BAD_LOWS) {
            due.is("low " + low, x.receive(3, low, 1), -2);
            due.is("low " + low + " without proof", x.receive(0, low, 0), -2);
        }
        EspAntiReplay dead = Given.having(8, 0, 1);
        dead.limits(0, 1, 1);
        due.is("low before the verdict of a dead line", dead.receive(0, 256, 1), -2);
        due.is("nothing is counted", dead.count(0, 5), 0);
    }

    private static void promise3EdgesOfLow() {
        due.part("promise 3: low in 0 .. 255 is taken");
        for (int line = 0; line < 4; line++) {
            EspAntiReplay x = Given.having(8, line, 100);
            due.is("255", x.receive(line, 255, 1), 1);
            due.is("0 is 256", x.receive(line, 0, 1), 1);
            due.is("top", x.top(line), 256);
            due.is("has 255", x.has(line, 255), 1);
        }
    }

    private static void promise4Refusals() {
        due.part("promise 4: the refusals in the order named");
        EspAntiReplay x = new EspAntiReplay(8);
        for (int bad = 1; bad < 16; bad++) {
            int line = (bad & 1) != 0 ? 4 : 0;
            int low = (bad & 2) != 0 ? 256 : 1;
            int step = (bad & 4) != 0 ? 65 : 1;
            int count = (bad & 8) != 0 ? 41 : 1;
            int want = line == 4 ? -1 : low == 256 ? -2 : step == 65 ? -3 : -4;
            due.is("burst(" + line + ", " + low + ", " + step + ", " + count + ")", x.burst(line, low, step, count), want);
        }
        for (int line : BAD_LINES) due.is("line " + line, x.burst(line, 1, 1, 1), -1);
        for (int low : BAD_LOWS) due.is("low " + low, x.burst(0, low, 1, 1), -2);
        for (int step : BAD_STEPS) due.is("step " + step, x.burst(0, 1, step, 1), -3);
        for (int count : BAD_COUNTS) due.is("count " + count, x.burst(0, 1, 1, count), -4);
        for (int v = 1; v <= 5; v++) due.is("nothing counted as " + v, x.count(0, v), 0);
    }

    private static void promise4EdgesOfArguments() {
        due.part("promise 4: the least and greatest arguments are taken");
        for (int line = 0; line < 4; line++) {
            due.is("low 0 on line " + line, new EspAntiReplay(8).burst(line, 0, 1, 2), 1);
            due.is("low 255 on line " + line, new EspAntiReplay(8).burst(line, 255, 1, 3), 1);
        }
        due.is("step -64", Given.having(8, 0, 100).burst(0, 200, -64, 1), 1);
        due.is("step 64", Given.having(8, 0, 100).burst(0, 200, 64, 1), 1);
        due.is("step 0", new EspAntiReplay(8).burst(0, 9, 0, 40), 1);
        due.is("count 1", new EspAntiReplay(8).burst(0, 9, 1, 1), 1);
        EspAntiReplay x = new EspAntiReplay(8);
        due.is("count 40", x.burst(0, 1, 1, 40), 40);
        due.is("top after 40", x.top(0), 40);
    }

    private static void promise4LowPartsModulo256() {
        due.part("promise 4: low, low + step, low + 2 * step, .. modulo 256 (remainders in 0 .. 255)");
        for (int width : new int[] {4, 64}) {
            for (int step = -64; step <= 64; step++) {
                for (int low : new int[] {0, 1, 63, 64, 128, 254, 255}) burstIsPackets(width, low, step);
            }
        }
        EspAntiReplay up = Given.having(8, 0, 190);
        due.is("254, 255, 0, 1", up.burst(0, 254, 1, 4), 4);
        due.is("top of 254, 255, 256, 257", up.top(0), 257);
        EspAntiReplay down = Given.having(8, 0, 190, 257);
        due.is("1, 0, 255, 254, the first a replay", down.burst(0, 1, -1, 4), 3);
        due.is("has 256", down.has(0, 256), 1);
        due.is("has 255", down.has(0, 255), 1);
        due.is("has 254", down.has(0, 254), 1);
        due.is("top stays", down.top(0), 257);
    }

    /** A burst does just what its packets do when they come in one by one. */
    private static void burstIsPackets(int width, int low, int step) {
        EspAntiReplay burst = new EspAntiReplay(width);
        EspAntiReplay single = new EspAntiReplay(width);
        int good = 0;
        for (int i = 0; i < 40; i++) {
            if (single.receive(1, Math.floorMod(low + i * step, 256), 1) == 1) good++;
        }
        String name = " of burst(1, " + low + ", " + step + ", 40), W " + width;
        due.is("answer" + name, burst.burst(1, low, step, 40), good);
        due.is("top" + name, burst.top(1), single.top(1));
        due.is("accepted" + name, burst.accepted(1), single.accepted(1));
        due.is("lost" + name, burst.lost(1), single.lost(1));
        due.is("gap" + name, burst.gap(1), single.gap(1));
        for (int v = 1; v <= 5; v++) due.is("count " + v + name, burst.count(1, v), single.count(1, v));
    }

    private static void promise4OneAfterTheOther() {
        due.part("promise 4: one after the other; answers how many of them were GOOD");
        EspAntiReplay x = new EspAntiReplay(8);
        x.limits(0, 1, 3);
        due.is("the line dies within", x.burst(0, 1, 1, 5), 3);
        due.is("the rest are DEAD", x.count(0, 5), 2);
        due.is("none is GOOD on a dead line", x.burst(0, 9, 1, 40), 0);
        due.is("all are DEAD", x.count(0, 5), 42);
        due.is("top", x.top(0), 3);
        EspAntiReplay y = new EspAntiReplay(8);
        due.is("-2, -1, 0, then 1, 2", y.burst(0, 254, 1, 5), 2);
        due.is("count EARLY", y.count(0, 3), 3);
        due.is("all replays", y.burst(0, 1, 1, 2), 0);
        due.is("count REPLAY", y.count(0, 2), 2);
        due.is("none is ever FORGED", y.count(0, 4), 0);
    }

    private static void promise5Refusal() {
        due.part("promise 5: -1 if line is not good");
        EspAntiReplay x = Given.busy();
        refusesBadLines("rekey", x::rekey, -1);
    }

    private static void promise5AcceptedSinceKeyedBefore() {
        due.part("promise 5: answers how many packets had been accepted since it was keyed before");
        EspAntiReplay x = new EspAntiReplay(64);
        due.is("a new line", x.rekey(0), 0);
        x.receive(0, 0, 1);
        x.receive(0, 9, 0);
        due.is("no GOOD packet", x.rekey(0), 0);
        Given.accept(x, 0, 1);
        x.receive(0, 1, 1);
        due.is("one and its replay", x.rekey(0), 1);
        due.is("at once again", x.rekey(0), 0);
        x.burst(0, 1, 1, 40);
        x.burst(0, 41, 1, 40);
        due.is("a full line", x.rekey(0), 60);
        x.burst(0, 1, 1, 9);
        x.limits(0, 0, 4);
        due.is("more than the hard limit", x.rekey(0), 9);
        x.burst(0, 1, 1, 40);
        due.is("the limits stay", x.rekey(0), 4);
    }

    private static void promise6Refusals() {
        due.part("promise 6: -1 if line is not good; -2 if hard is not in 1 .. 60; -3 if soft is not in 0 .. hard");
        EspAntiReplay x = new EspAntiReplay(8);
        for (int line : BAD_LINES) {
            due.is("line " + line, x.limits(line, 0, 1), -1);
            due.is("line " + line + " before hard", x.limits(line, 0, 0), -1);
            due.is("line " + line + " before soft", x.limits(line, -1, 1), -1);
            due.is("line " + line + " before both", x.limits(line, -1, 61), -1);
        }
        for (int hard : BAD_HARDS) {
            due.is("hard " + hard, x.limits(0, 0, hard), -2);
            due.is("hard " + hard + " before soft -1", x.limits(0, -1, hard), -2);
            due.is("hard " + hard + " before soft 62", x.limits(0, 62, hard), -2);
        }
        for (int hard : new int[] {1, 2, 59, 60}) {
            for (int soft : new int[] {-1, hard + 1, 61, Integer.MIN_VALUE, Integer.MAX_VALUE}) {
                due.is("soft " + soft + ", hard " + hard, x.limits(0, soft, hard), -3);
            }
        }
        EspAntiReplay dead = Given.run(8, 0, 1, 5);
        dead.limits(0, 0, 5);
        due.is("a refusal before the answer of a dead line", dead.limits(0, 6, 5), -3);
        due.is("the refused limits aren't set", Sight.softLimit(dead, 0), 0);
    }

    private static void promise6EdgesOfLimits() {
        due.part("promise 6: hard 1 .. 60, soft 0 .. hard are taken");
        for (int hard : new int[] {1, 2, 30, 59, 60}) {
            for (int soft : new int[] {0, 1, hard - 1, hard}) {
                for (int line = 0; line < 4; line++) {
                    EspAntiReplay x = new EspAntiReplay(8);
                    String name = " of limits(" + line + ", " + soft + ", " + hard + ")";
                    due.is("answer" + name, x.limits(line, soft, hard), 0);
                    due.is("soft" + name, Sight.softLimit(x, line), soft);
                    due.is("hard" + name, Sight.hardLimit(x, line), hard);
                }
            }
        }
        EspAntiReplay x = new EspAntiReplay(8);
        x.limits(1, 2, 3);
        due.is("another line's soft limit", Sight.softLimit(x, 0), 40);
        due.is("another line's hard limit", Sight.hardLimit(x, 2), 60);
    }

    private static void promise6DeadNow() {
        due.part("promise 6: otherwise 1 if the line is dead now, else 0");
        EspAntiReplay x = Given.run(8, 0, 1, 10);
        due.is("one more than accepted", x.limits(0, 0, 11), 0);
        due.is("just as many", x.limits(0, 0, 10), 1);
        due.is("less", x.limits(0, 0, 9), 1);
        due.is("the least", x.limits(0, 0, 1), 1);
        due.is("a dead line lives again", x.limits(0, 0, 11), 0);
        due.is("and takes one packet", x.burst(0, 11, 1, 3), 1);
        due.is("dead again", x.limits(0, 11, 11), 1);
        due.is("no packet, least limit", x.limits(1, 0, 1), 0);
    }

    private static void promise6NeverMoreThan60() {
        due.part("promise 6: (More than 60 packets are never accepted without keying anew.)");
        EspAntiReplay x = Given.run(64, 0, 1, 60);
        due.is("the greatest limit leaves it dead", x.limits(0, 60, 60), 1);
        due.is("a greater one is refused", x.limits(0, 60, 61), -2);
        due.is("packet 61", x.receive(0, 61, 1), 5);
        due.is("a burst", x.burst(0, 61, 1, 40), 0);
        due.is("accepted", x.accepted(0), 60);
        due.is("top", x.top(0), 60);
        due.is("another line takes its own 60", x.burst(1, 1, 1, 40) + x.burst(1, 41, 1, 40), 60);
        due.is("the first still has just its own", x.has(0, 60) * 10 + x.has(0, 61), 10);
        for (int n = 1; n <= 60; n++) due.is("has " + n, x.has(0, n), 1);
        x.rekey(0);
        due.is("after keying anew", x.receive(0, 61, 1), 1);
    }

    private static void promise7Refusal() {
        due.part("promise 7: -1 if line is not good");
        refusesBadLines("top", Given.busy()::top, -1);
    }

    private static void promise8Refusal() {
        due.part("promise 8: -1 if line is not good");
        refusesBadLines("accepted", Given.busy()::accepted, -1);
    }

    private static void promise8AcceptedSinceKeyed() {
        due.part("promise 8: how many numbers have been accepted on the line since it was keyed");
        EspAntiReplay x = new EspAntiReplay(4);
        due.is("none", x.accepted(2), 0);
        Given.accept(x, 2, 250, 248, 256);
        due.is("also those that have left the window", x.accepted(2), 3);
        x.receive(2, 0, 1);
        x.receive(2, 1, 0);
        due.is("no replay, no forged packet", x.accepted(2), 3);
        x.rekey(2);
        due.is("keyed anew", x.accepted(2), 0);
    }

    private static void promise9Refusal() {
        due.part("promise 9: -1 if line is not good");
        refusesBadLines("dead", Given.busy()::dead, -1);
    }

    private static void promise10Refusal() {
        due.part("promise 10: -1 if line is not good");
        refusesBadLines("aging", Given.busy()::aging, -1);
    }

    private static void promise11Refusals() {
        due.part("promise 11: -1 if line is not good; -2 if verdict is not in 1 .. 5");
        EspAntiReplay x = Given.busy();
        for (int verdict = 1; verdict <= 5; verdict++) {
            int v = verdict;
            refusesBadLines("count " + v, line -> x.count(line, v), -1);
        }
        for (int line : BAD_LINES) due.is("line " + line + " before verdict", x.count(line, 6), -1);
        for (int verdict : new int[] {0, -1, 6, 7, 256, Integer.MIN_VALUE, Integer.MAX_VALUE}) {
            for (int line = 0; line < 4; line++) due.is("verdict " + verdict, x.count(line, verdict), -2);
        }
    }

    private static void promise11OverAllKeys() {
        due.part("promise 11: by receive or burst, over all keys");
        EspAntiReplay x = new EspAntiReplay(8);
        x.limits(0, 2, 2);
        for (int key = 1; key <= 3; key++) {
            x.receive(0, 0, 1);
            x.receive(0, 1, 0);
            x.receive(0, 1, 1);
            x.burst(0, 255, 1, 5);
            due.is("GOOD", x.count(0, 1), 2 * key);
            due.is("REPLAY", x.count(0, 2), key);
            due.is("EARLY", x.count(0, 3), 3 * key);
            due.is("FORGED", x.count(0, 4), key);
            due.is("DEAD", x.count(0, 5), key);
            x.rekey(0);
        }
    }

    private static void promise12Refusals() {
        due.part("promise 12: -1000 if line is not good or low is not in 0 .. 255");
        EspAntiReplay x = Given.busy();
        refusesBadLines("numberFor 0", line -> x.numberFor(line, 0), -1000);
        refusesBadLines("numberFor 255", line -> x.numberFor(line, 255), -1000);
        for (int low : BAD_LOWS) {
            for (int line = 0; line < 4; line++) due.is("low " + low, x.numberFor(line, low), -1000);
            due.is("bad line and low " + low, x.numberFor(4, low), -1000);
        }
    }

    private static void promise12MayBeLessThan1() {
        due.part("promise 12: (it may be less than 1)");
        for (int width : new int[] {4, 5, 63, 64}) {
            EspAntiReplay x = new EspAntiReplay(width);
            due.is("0, W " + width, x.numberFor(2, 0), 0);
            due.is("-1, W " + width, x.numberFor(2, 255), -1);
            due.is("the least, W " + width, x.numberFor(2, 257 - width), 1 - width);
            Given.accept(x, 2, width - 1);
            due.is("0 is still in the window, W " + width, x.numberFor(2, 0), 0);
            due.is("-1 no more, W " + width, x.numberFor(2, 255), 255);
            Given.accept(x, 2, width);
            due.is("0 no more, W " + width, x.numberFor(2, 0), 256);
        }
    }

    private static void promise12OnEveryLine() {
        due.part("promise 12: a dead line and an accepted number are no refusal");
        EspAntiReplay x = Given.having(8, 0, 20);
        due.is("an accepted number", x.numberFor(0, 20), 20);
        x.limits(0, 1, 1);
        due.is("an accepted number of a dead line", x.numberFor(0, 20), 20);
        due.is("a new number of a dead line", x.numberFor(0, 12), 268);
        x.rekey(0);
        due.is("keyed anew", x.numberFor(0, 12), 12);
        due.is("keyed anew, negative", x.numberFor(0, 249), -7);
    }

    private static void promise13Refusal() {
        due.part("promise 13: -1 if line is not good");
        EspAntiReplay x = Given.busy();
        for (int number : new int[] {Integer.MIN_VALUE, -1, 0, 1, 255, Integer.MAX_VALUE}) {
            refusesBadLines("has " + number, line -> x.has(line, number), -1);
        }
    }

    private static void promise13AnyInt() {
        due.part("promise 13: number may be any int.");
        int[] never = {
            Integer.MIN_VALUE, Integer.MIN_VALUE + 1, Integer.MIN_VALUE + 60, -65536, -256, -255, -64, -1, 0,
            1 << 16, (1 << 16) + 1, 1 << 24, Integer.MAX_VALUE - 60, Integer.MAX_VALUE
        };
        EspAntiReplay empty = new EspAntiReplay(8);
        EspAntiReplay full = Given.run(64, 0, 1, 60);
        for (int number : never) {
            due.is("a new line, " + number, empty.has(0, number), 0);
            due.is("a full line, " + number, full.has(0, number), 0);
        }
        full.rekey(0);
        for (int number : never) due.is("keyed anew, " + number, full.has(0, number), 0);
        due.is("the least number, keyed anew", full.has(0, 1), 0);
    }

    private static void promise13BelowTheWindow() {
        due.part("promise 13: 1 if the number has been accepted on the line since it was keyed, otherwise 0");
        EspAntiReplay x = Given.having(4, 0, 1, 250, 500);
        due.is("1, long below the window", x.has(0, 1), 1);
        due.is("250, below the window", x.has(0, 250), 1);
        due.is("500, the top", x.has(0, 500), 1);
        due.is("257, the low part of 1", x.has(0, 257), 0);
        due.is("244, the low part of 500", x.has(0, 244), 0);
        due.is("506, the low part of 250", x.has(0, 506), 0);
    }

    private static void promise14Refusal() {
        due.part("promise 14: -1 if line is not good");
        refusesBadLines("inWindow", Given.busy()::inWindow, -1);
    }

    private static void promise14EdgesOfTheWindow() {
        due.part("promise 14: how many numbers in top - W + 1 .. top");
        for (int width = 4; width <= 64; width++) {
            for (int top : new int[] {width + 1, 100, 256, 300}) {
                int least = top - width + 1;
                String name = ", top " + top + ", W " + width;
                EspAntiReplay x = Given.withTop(width, 1, least - 1);
                Given.accept(x, 1, top);
                due.is("top - W has left" + name, x.inWindow(1), 1);
                Given.accept(x, 1, least);
                due.is("top - W + 1 is in it" + name, x.inWindow(1), 2);
                Given.accept(x, 1, top + 1);
                due.is("and leaves with the next top" + name, x.inWindow(1), 2);
            }
        }
    }

    private static void promise14EmptyAndFull() {
        due.part("promise 14: an empty and a full window");
        for (int width : new int[] {4, 5, 59, 60}) {
            EspAntiReplay x = new EspAntiReplay(width);
            due.is("empty, W " + width, x.inWindow(0), 0);
            for (int n = 1; n <= 60; n++) {
                Given.accept(x, 0, n);
                due.is(n + " in order, W " + width, x.inWindow(0), Math.min(n, width));
            }
            x.rekey(0);
            due.is("keyed anew, W " + width, x.inWindow(0), 0);
        }
        due.is("60 numbers in a window of 64", Given.run(64, 0, 5, 64).inWindow(0), 60);
    }

    private static void promise15Refusal() {
        due.part("promise 15: -1 if line is not good");
        refusesBadLines("lost", Given.busy()::lost, -1);
    }

    private static void promise15EdgesOfTheWindow() {
        due.part("promise 15: are less than top - W + 1");
        for (int width = 4; width <= 64; width++) {
            String w = ", W " + width;
            due.is("top W - 1" + w, Given.having(width, 0, width - 1).lost(0), 0);
            due.is("top W" + w, Given.having(width, 0, width).lost(0), 0);
            due.is("top W + 1: 1 is lost" + w, Given.having(width, 0, width + 1).lost(0), 1);
            due.is("top W + 1, 1 accepted" + w, Given.having(width, 0, 1, width + 1).lost(0), 0);
            due.is("top W + 2: 1 and 2 are lost" + w, Given.having(width, 0, width + 2).lost(0), 2);
            EspAntiReplay x = Given.having(width, 0, width + 2, 3);
            due.is("3 was not lost" + w, x.lost(0), 2);
            Given.accept(x, 0, width + 3);
            due.is("3 leaves the window accepted" + w, x.lost(0), 2);
            Given.accept(x, 0, width + 4);
            due.is("4 leaves it not accepted" + w, x.lost(0), 3);
        }
    }

    private static void promise15NoneAndAll() {
        due.part("promise 15: how many numbers in 1 .. top have not been accepted");
        due.is("a new line", new EspAntiReplay(4).lost(0), 0);
        due.is("60 in order", Given.run(4, 0, 1, 60).lost(0), 0);
        due.is("only the top: a wrap-around", Given.having(4, 0, 252).lost(0), 248);
        EspAntiReplay far = new EspAntiReplay(4);
        far.burst(0, 252, -4, 40);
        far.burst(0, 92, -4, 20);
        due.is("60 times 252 numbers on", far.top(0), 60 * 252);
        due.is("all but 59 accepted and the window", far.lost(0), 60 * 252 - 4 - 59);
        far.rekey(0);
        due.is("keyed anew", far.lost(0), 0);
    }

    private static void promise15NeverAcceptedAnyMore() {
        due.part("promise 15: they can never be accepted any more");
        for (int low = 0; low < 256; low++) {
            EspAntiReplay x = Given.having(8, 0, 2, 30);
            due.is("lost", x.lost(0), 21);
            x.receive(0, low, 1);
            for (int n = 1; n <= 22; n++) due.is("has " + n + " after " + low, x.has(0, n), n == 2 ? 1 : 0);
            due.is("lost after " + low + " is no less", x.lost(0) < 21 ? 1 : 0, 0);
        }
    }

    private static void promise16Refusal() {
        due.part("promise 16: -1 if line is not good");
        refusesBadLines("gap", Given.busy()::gap, -1);
    }

    private static void promise16EdgesOfTheWindow() {
        due.part("promise 16: the greatest number less than top, but at least top - W + 1");
        for (int width = 4; width <= 60; width++) {
            for (int top : new int[] {width + 1, 100, 256, 300}) {
                int least = top - width + 1;
                String name = ", top " + top + ", W " + width;
                due.is("just below the top" + name, Given.withTop(width, 0, top).gap(0), top - 1);
                EspAntiReplay x = Given.withTop(width, 0, least - 2);
                // Not all of a wide window can be filled on top of the numbers that lead up to it.
                if (x.accepted(0) + width > 60) continue;
                Given.accept(x, 0, top);
                for (int n = top - 1; n > least; n--) {
                    due.is("the greatest" + name, x.gap(0), n);
                    Given.accept(x, 0, n);
                }
                due.is("the window's least" + name, x.gap(0), least);
                Given.accept(x, 0, least);
                due.is("top - W is below it" + name, x.has(0, least - 1) * 10 + x.gap(0), 0);
            }
        }
    }

    private static void promise16AtLeast1() {
        due.part("promise 16: and at least 1");
        for (int width : new int[] {4, 5, 63, 64}) {
            String w = ", W " + width;
            due.is("top 1: nothing from 1 on" + w, Given.having(width, 0, 1).gap(0), 0);
            due.is("top 2" + w, Given.having(width, 0, 2).gap(0), 1);
            due.is("top 2 and 1" + w, Given.having(width, 0, 2, 1).gap(0), 0);
            due.is("top 3 and 2" + w, Given.having(width, 0, 3, 2).gap(0), 1);
        }
        EspAntiReplay x = Given.run(60, 0, 2, 60);
        due.is("top W, all but 1", x.gap(0), 1);
        EspAntiReplay y = Given.run(60, 0, 2, 61);
        due.is("top W + 1: 1 has left the window", y.gap(0), 0);
        due.is("and is lost", y.lost(0), 1);
    }

    private static void promise16NoneIsZero() {
        due.part("promise 16: 0 if there is none");
        due.is("a new line", new EspAntiReplay(64).gap(0), 0);
        due.is("60 in order, W 4", Given.run(4, 0, 1, 60).gap(0), 0);
        due.is("60 in order, W 64", Given.run(64, 0, 1, 60).gap(0), 0);
        EspAntiReplay x = Given.having(4, 0, 9, 13, 12, 11, 10);
        due.is("a full window above a lost number", x.gap(0), 0);
        x.rekey(0);
        due.is("keyed anew", x.gap(0), 0);
        x.receive(0, 9, 0);
        due.is("after a forged packet", x.gap(0), 0);
    }
}
