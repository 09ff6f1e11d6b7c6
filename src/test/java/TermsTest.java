import java.util.function.Consumer;
import java.util.function.Supplier;

/** Each sentence of the sections 'What it is' and 'Terms' that names a boundary case. */
public final class TermsTest {
    private static final int[] WIDTHS = {4, 5, 31, 63, 64};
    private static final int[] GOOD_PROOFS = {1, -1, 2, 256, 65536, Integer.MIN_VALUE, Integer.MAX_VALUE};

    private static final Due due = new Due();

    public static void main(String[] args) {
        atMost512Calls();
        fourLines();
        topIsGreatestOrZero();
        windowIsWWide();
        numberTakenIsLeast();
        remainderOfNegativeNumbers();
        deadFirst();
        earlyBelowOne();
        earlyBeforeForged();
        replaySinceKeyed();
        replayBeforeForged();
        replayAtTheWindowsEnds();
        forgedWithoutProof();
        goodOtherwise();
        goodBecomesAccepted();
        othersChangeOnlyCounts();
        firstLimits();
        deadAtHardLimitOrMore();
        agingAtSoftLimitOrMore();
        deadLineIsAgingToo();
        keyingAnew();
        noQuestionChangesAnything();
        refusedCallChangesNothing();
        testsInTheOrderNamed();
        goodLines();
        due.finish();
    }

    private static void atMost512Calls() {
        due.part("An object is used for at most 512 calls after it has been made");
        EspAntiReplay x = new EspAntiReplay(4);
        int good = 0;
        for (int i = 0; i < 510; i++) {
            int n = i % 51 + 1;
            if (n == 51) x.rekey(2);
            else if (x.receive(2, n, 1) == 1) good++;
        }
        due.is("GOOD among 510 calls", good, 500);
        due.is("call 511, receive", x.receive(2, 1, 1), 1);
        due.is("call 512, count", x.count(2, 1), 501);
        // What later calls answer is free, but the class may never throw.
        for (int i = 0; i < 20000; i++) {
            x.burst(i & 3, i & 255, i % 65, 40);
            x.gap(i & 3);
            if (i % 7 == 0) x.rekey(i & 3);
        }
    }

    private static void fourLines() {
        due.part("There are four LINES, 0 .. 3.");
        for (int line = 0; line < 4; line++) {
            EspAntiReplay x = Given.having(8, line, 20, 22);
            x.limits(line, 1, 2);
            x.receive(line, 23, 1);
            for (int other = 0; other < 4; other++) {
                boolean same = other == line;
                String name = " of line " + other + ", packets on " + line;
                due.is("top" + name, x.top(other), same ? 22 : 0);
                due.is("accepted" + name, x.accepted(other), same ? 2 : 0);
                due.is("dead" + name, x.dead(other), same ? 1 : 0);
                due.is("aging" + name, x.aging(other), same ? 1 : 0);
                due.is("count GOOD" + name, x.count(other, 1), same ? 2 : 0);
                due.is("count DEAD" + name, x.count(other, 5), same ? 1 : 0);
                due.is("numberFor 255" + name, x.numberFor(other, 255), same ? 255 : -1);
                due.is("has 20" + name, x.has(other, 20), same ? 1 : 0);
                due.is("inWindow" + name, x.inWindow(other), same ? 2 : 0);
                due.is("lost" + name, x.lost(other), same ? 14 : 0);
                due.is("gap" + name, x.gap(other), same ? 21 : 0);
            }
        }
    }

    private static void topIsGreatestOrZero() {
        due.part("its TOP: the greatest of them, 0 if there is none");
        EspAntiReplay x = new EspAntiReplay(64);
        due.is("no number yet", x.top(1), 0);
        x.receive(1, 0, 1);
        x.receive(1, 50, 0);
        due.is("only early and forged packets", x.top(1), 0);
        Given.accept(x, 1, 1);
        due.is("the least number", x.top(1), 1);
        Given.accept(x, 1, 60, 59, 2, 58);
        due.is("the greatest came second", x.top(1), 60);
        x.rekey(1);
        due.is("none since keyed", x.top(1), 0);
        Given.accept(x, 1, 3);
        due.is("less than the top of the key before", x.top(1), 3);
    }

    private static void windowIsWWide() {
        due.part("The window is W numbers wide.");
        for (int width = 4; width <= 64; width++) {
            EspAntiReplay least = Given.having(width, 0, 100);
            least.receive(0, 100 - width + 1, 1);
            due.is("top after the window's least number, W " + width, least.top(0), 100);
            due.is("it is accepted, W " + width, least.has(0, 100 - width + 1), 1);
            EspAntiReplay below = Given.having(width, 0, 100);
            below.receive(0, 100 - width, 1);
            due.is("top after the number below it, W " + width, below.top(0), 100 - width + 256);
            due.is("it isn't accepted itself, W " + width, below.has(0, 100 - width), 0);
        }
    }

    /** The document's words as a search, so that no clever reckoning is checked against itself. */
    private static int leastNumber(int top, int width, int low) {
        int s = top - width + 1;
        while (Math.floorMod(s, 256) != low) s++;
        return s;
    }

    private static void numberTakenIsLeast() {
        due.part("its number is taken to be the least whole number s with s >= top - W + 1 and s modulo 256 = b");
        for (int width : WIDTHS) {
            int[] tops = {
                0, 1, width - 2, width - 1, width, width + 1, 127, 128, 254, 255, 256, 257,
                255 + width, 256 + width, 511, 512, 513, 5000, 5119, 5120
            };
            for (int top : tops) {
                EspAntiReplay x = Given.withTop(width, 3, top);
                for (int low = 0; low < 256; low++) {
                    int s = leastNumber(top, width, low);
                    String name = low + ", top " + top + ", W " + width;
                    due.is("numberFor " + name, x.numberFor(3, low), s);
                    if (s > top) {
                        EspAntiReplay y = Given.withTop(width, 3, top);
                        due.is("receive " + name, y.receive(3, low, 1), 1);
                        due.is("top after " + name, y.top(3), s);
                    }
                }
            }
        }
    }

    private static void remainderOfNegativeNumbers() {
        due.part("(the remainder in 0 .. 255, also for negative s)");
        for (int width = 4; width <= 64; width++) {
            EspAntiReplay x = new EspAntiReplay(width);
            for (int s = 1 - width; s <= 0; s++) {
                due.is("number of a new line, W " + width, x.numberFor(0, (s + 256) % 256), s);
            }
            due.is("the first low part above, W " + width, x.numberFor(0, 1), 1);
            due.is("the last low part above, W " + width, x.numberFor(0, 256 - width), 256 - width);
        }
    }

    private static void deadFirst() {
        due.part("The verdict, by the first that applies: DEAD 5 if the line is dead");
        EspAntiReplay x = Given.having(8, 1, 5);
        x.limits(1, 0, 1);
        for (int proof = 0; proof <= 1; proof++) {
            due.is("dead and early, proof " + proof, x.receive(1, 254, proof), 5);
            due.is("dead and replayed, proof " + proof, x.receive(1, 5, proof), 5);
            due.is("dead and new, proof " + proof, x.receive(1, 6, proof), 5);
        }
        due.is("all were counted as DEAD", x.count(1, 5), 6);
        for (int v = 2; v <= 4; v++) due.is("none as verdict " + v, x.count(1, v), 0);
    }

    private static void earlyBelowOne() {
        due.part("EARLY 3 if s < 1");
        for (int width : WIDTHS) {
            String w = ", W " + width;
            due.is("s = 0" + w, new EspAntiReplay(width).receive(0, 0, 1), 3);
            due.is("s = 1" + w, new EspAntiReplay(width).receive(0, 1, 1), 1);
            due.is("s = -1" + w, new EspAntiReplay(width).receive(0, 255, 1), 3);
            due.is("s = 1 - W" + w, new EspAntiReplay(width).receive(0, 257 - width, 1), 3);
            due.is("s = 256 - W" + w, new EspAntiReplay(width).receive(0, 256 - width, 1), 1);
            due.is("top W - 1: s = 0" + w, Given.having(width, 0, width - 1).receive(0, 0, 1), 3);
            EspAntiReplay x = Given.having(width, 0, width);
            due.is("top W: s = 256" + w, x.receive(0, 0, 1), 1);
            due.is("its number" + w, x.top(0), 256);
        }
    }

    private static void earlyBeforeForged() {
        due.part("The verdict, by the first that applies: EARLY before FORGED");
        EspAntiReplay x = new EspAntiReplay(8);
        due.is("0 without proof", x.receive(0, 0, 0), 3);
        due.is("-7 without proof", x.receive(0, 249, 0), 3);
        due.is("count EARLY", x.count(0, 3), 2);
        due.is("count FORGED", x.count(0, 4), 0);
    }

    private static void replaySinceKeyed() {
        due.part("REPLAY 2 if s has been accepted on the line since it was keyed");
        EspAntiReplay x = Given.having(8, 0, 6);
        due.is("again", x.receive(0, 6, 1), 2);
        due.is("and again", x.receive(0, 6, 1), 2);
        due.is("on another line", x.receive(1, 6, 1), 1);
        x.rekey(0);
        due.is("keyed anew", x.receive(0, 6, 1), 1);
        due.is("again under the new key", x.receive(0, 6, 1), 2);
        due.is("the other line wasn't keyed anew", x.receive(1, 6, 1), 2);
        EspAntiReplay full = Given.run(64, 2, 1, 59);
        for (int n = 1; n <= 59; n++) due.is(n + " of 59", full.receive(2, n, 1), 2);
    }

    private static void replayBeforeForged() {
        due.part("The verdict, by the first that applies: REPLAY before FORGED");
        EspAntiReplay x = Given.having(8, 0, 6);
        due.is("6 again without proof", x.receive(0, 6, 0), 2);
        due.is("count REPLAY", x.count(0, 2), 1);
        due.is("count FORGED", x.count(0, 4), 0);
    }

    private static void replayAtTheWindowsEnds() {
        due.part("REPLAY 2 at the ends of the window, also where the low part wraps around");
        for (int width : WIDTHS) {
            for (int top : new int[] {100, 255, 256, 257, 255 + width}) {
                int least = top - width + 1;
                String w = ", top " + top + ", W " + width;
                EspAntiReplay x = Given.withTop(width, 0, least - 1);
                Given.accept(x, 0, least, top);
                due.is("the top" + w, x.receive(0, top & 255, 1), 2);
                due.is("the window's least" + w, x.receive(0, least & 255, 1), 2);
                due.is("below the window, though accepted" + w, x.receive(0, (least - 1) & 255, 1), 1);
                due.is("it is 256 more" + w, x.top(0), least - 1 + 256);
            }
        }
    }

    private static void forgedWithoutProof() {
        due.part("FORGED 4 if the packet's proof is not good");
        EspAntiReplay x = new EspAntiReplay(8);
        due.is("9 without proof", x.receive(0, 9, 0), 4);
        due.is("9 without proof again is no replay", x.receive(0, 9, 0), 4);
        due.is("9 with proof", x.receive(0, 9, 1), 1);
        due.is("count FORGED", x.count(0, 4), 2);
    }

    private static void goodOtherwise() {
        due.part("GOOD 1 otherwise; proof not 0 means that its proof is good");
        for (int proof : GOOD_PROOFS) {
            due.is("proof " + proof, new EspAntiReplay(8).receive(0, 9, proof), 1);
        }
    }

    private static void goodBecomesAccepted() {
        due.part("A GOOD packet's number becomes accepted");
        EspAntiReplay x = Given.having(8, 0, 100);
        x.receive(0, 93, 1);
        due.is("the window's least", x.has(0, 93), 1);
        x.receive(0, 92, 1);
        due.is("a wrap-around: 92 is 348", x.has(0, 348), 1);
        due.is("not 92", x.has(0, 92), 0);
        due.is("accepted", x.accepted(0), 3);
        due.is("count GOOD", x.count(0, 1), 3);
    }

    private static void othersChangeOnlyCounts() {
        due.part("all others change nothing but the counts of verdicts");
        onlyCount("a DEAD packet", 1, 5, x -> x.receive(1, 3, 1));
        onlyCount("an EARLY packet", 3, 3, x -> x.receive(3, 0, 1));
        onlyCount("a REPLAY packet", 0, 2, x -> x.receive(0, 255, 1));
        onlyCount("a FORGED packet", 0, 4, x -> x.receive(0, 9, 0));
        onlyCount("a FORGED packet within the window", 0, 4, x -> x.receive(0, 0, 0));
    }

    private static void onlyCount(String name, int line, int verdict, Consumer<EspAntiReplay> packet) {
        Supplier<EspAntiReplay> make = Given::busy;
        Sight.unchangedButCounts(due, name, make, packet);
        EspAntiReplay before = make.get();
        EspAntiReplay after = make.get();
        packet.accept(after);
        for (int l = 0; l < 4; l++) {
            for (int v = 1; v <= 5; v++) {
                int more = l == line && v == verdict ? 1 : 0;
                due.is("count " + v + " of line " + l + " after " + name, after.count(l, v), before.count(l, v) + more);
            }
        }
    }

    private static void firstLimits() {
        due.part("at first 40 and 60");
        for (int line = 0; line < 4; line++) {
            due.is("soft limit of line " + line, Sight.softLimit(new EspAntiReplay(8), line), 40);
            due.is("hard limit of line " + line, Sight.hardLimit(new EspAntiReplay(8), line), 60);
        }
    }

    private static void deadAtHardLimitOrMore() {
        due.part("When as many packets have been accepted since the line was keyed as the hard limit says (or more), the line is DEAD.");
        for (int hard = 1; hard <= 60; hard++) {
            EspAntiReplay x = new EspAntiReplay(8);
            x.limits(0, 0, hard);
            for (int n = 1; n < hard; n++) x.receive(0, n, 1);
            due.is("one less than " + hard, x.dead(0), 0);
            due.is("the last packet of " + hard, x.receive(0, hard, 1), 1);
            due.is("just " + hard, x.dead(0), 1);
            due.is("one packet above " + hard, x.receive(0, hard + 1, 1), 5);
            if (hard > 1) {
                x.limits(0, 0, hard - 1);
                due.is("more than " + (hard - 1), x.dead(0), 1);
            }
        }
        EspAntiReplay x = Given.having(8, 1, 1, 2, 3);
        x.limits(1, 0, 4);
        x.rekey(1);
        Given.accept(x, 1, 1, 2, 3);
        due.is("packets of the key before aren't among them", x.dead(1), 0);
        x.receive(1, 3, 1);
        x.receive(1, 9, 0);
        x.receive(1, 0, 1);
        due.is("nor are packets that weren't GOOD", x.dead(1), 0);
    }

    private static void agingAtSoftLimitOrMore() {
        due.part("When as many as the soft limit says have been accepted (or more), it is AGING");
        EspAntiReplay x = new EspAntiReplay(8);
        x.limits(0, 0, 60);
        due.is("soft 0, none accepted", x.aging(0), 1);
        for (int soft = 1; soft <= 60; soft++) {
            x.limits(0, soft, 60);
            due.is("one less than " + soft, x.aging(0), 0);
            x.receive(0, soft, 1);
            due.is("just " + soft, x.aging(0), 1);
            x.limits(0, soft - 1, 60);
            due.is("more than " + (soft - 1), x.aging(0), 1);
        }
    }

    private static void deadLineIsAgingToo() {
        due.part("(a dead line is aging too, if its accepted packets are at least the soft limit)");
        for (int soft = 0; soft <= 5; soft++) {
            EspAntiReplay x = Given.run(8, 0, 1, 5);
            due.is("limits " + soft + ", 5", x.limits(0, soft, 5), 1);
            due.is("aging, soft " + soft, x.aging(0), 1);
            due.is("dead, soft " + soft, x.dead(0), 1);
        }
        EspAntiReplay x = Given.run(8, 0, 1, 5);
        x.limits(0, 6, 6);
        due.is("not aging while alive below both limits", x.aging(0) + x.dead(0), 0);
    }

    private static void keyingAnew() {
        due.part("KEYING a line anew: no number is accepted, top is 0, and the line is not dead");
        for (int line = 0; line < 3; line++) {
            EspAntiReplay x = Given.busy();
            int[] counts = new int[6];
            for (int v = 1; v <= 5; v++) counts[v] = x.count(line, v);
            x.rekey(line);
            for (int n = -8; n <= 300; n++) due.is("has " + n + " of line " + line, x.has(line, n), 0);
            due.is("accepted of line " + line, x.accepted(line), 0);
            due.is("top of line " + line, x.top(line), 0);
            due.is("dead of line " + line, x.dead(line), 0);
            due.is("inWindow of line " + line, x.inWindow(line), 0);
            due.is("lost of line " + line, x.lost(line), 0);
            due.is("gap of line " + line, x.gap(line), 0);
            for (int v = 1; v <= 5; v++) due.is("count " + v + " of line " + line, x.count(line, v), counts[v]);
        }
        EspAntiReplay x = new EspAntiReplay(8);
        x.limits(0, 1, 1);
        Given.accept(x, 0, 1);
        due.is("dead under the least hard limit", x.dead(0), 1);
        x.rekey(0);
        due.is("alive again under the least hard limit", x.dead(0), 0);
        due.is("one more passes", x.receive(0, 1, 1), 1);
        due.is("and it is dead again", x.dead(0), 1);
        EspAntiReplay full = Given.run(64, 3, 1, 60);
        full.rekey(3);
        full.burst(3, 1, 1, 40);
        due.is("a full line takes 60 numbers again", full.burst(3, 41, 1, 40), 20);
    }

    private static void noQuestionChangesAnything() {
        due.part("No question changes anything.");
        int[] lines = {0, 1, 2, 3, -1, 4};
        Sight.unchanged(due, "all plain questions", Given::busy, x -> {
            x.window();
            for (int line : lines) {
                x.top(line);
                x.accepted(line);
                x.dead(line);
                x.aging(line);
                x.inWindow(line);
                x.lost(line);
                x.gap(line);
                for (int verdict = 0; verdict <= 6; verdict++) x.count(line, verdict);
            }
        });
        int[] numbers = {Integer.MIN_VALUE, -1, 0, 1, 2, 255, 257, 258, 259, 600, Integer.MAX_VALUE};
        Sight.unchanged(due, "numberFor and has", Given::busy, x -> {
            for (int line : lines) {
                for (int number : numbers) {
                    x.numberFor(line, number);
                    x.has(line, number);
                }
            }
        });
    }

    private static void refusedCallChangesNothing() {
        due.part("A refused call changes nothing.");
        for (int line : new int[] {-1, 4}) {
            unchanged("receive on line " + line, x -> x.receive(line, 20, 1));
            unchanged("burst on line " + line, x -> x.burst(line, 20, 1, 9));
            unchanged("rekey of line " + line, x -> x.rekey(line));
            unchanged("limits of line " + line, x -> x.limits(line, 1, 2));
        }
        for (int line = 0; line < 4; line++) {
            int l = line;
            String name = " on line " + line;
            unchanged("receive -1" + name, x -> x.receive(l, -1, 1));
            unchanged("receive 256" + name, x -> x.receive(l, 256, 1));
            unchanged("burst of -1" + name, x -> x.burst(l, -1, 1, 9));
            unchanged("burst of 256" + name, x -> x.burst(l, 256, 1, 9));
            unchanged("burst by -65" + name, x -> x.burst(l, 20, -65, 9));
            unchanged("burst by 65" + name, x -> x.burst(l, 20, 65, 9));
            unchanged("burst, count 0" + name, x -> x.burst(l, 20, 1, 0));
            unchanged("burst, count 41" + name, x -> x.burst(l, 20, 1, 41));
            unchanged("hard 0" + name, x -> x.limits(l, 0, 0));
            unchanged("hard 61" + name, x -> x.limits(l, 0, 61));
            unchanged("soft -1" + name, x -> x.limits(l, -1, 20));
            unchanged("soft above hard" + name, x -> x.limits(l, 21, 20));
        }
    }

    private static void unchanged(String name, Consumer<EspAntiReplay> refused) {
        Sight.unchanged(due, name, Given::busy, refused);
    }

    private static void testsInTheOrderNamed() {
        due.part("In every method the tests are made in the order named");
        EspAntiReplay x = Given.busy();
        due.is("receive: line, low", x.receive(4, 256, 1), -1);
        due.is("burst: line, low, step, count", x.burst(4, 256, 65, 41), -1);
        due.is("burst: low, step, count", x.burst(0, 256, 65, 41), -2);
        due.is("burst: step, count", x.burst(0, 255, 65, 41), -3);
        due.is("burst: count", x.burst(0, 255, 64, 41), -4);
        due.is("limits: line, hard, soft", x.limits(4, 62, 61), -1);
        due.is("limits: hard, soft", x.limits(0, 62, 61), -2);
        due.is("limits: soft", x.limits(0, 61, 60), -3);
        due.is("count: line, verdict", x.count(-1, 0), -1);
        due.is("count: verdict", x.count(0, 0), -2);
        due.is("numberFor: line, low", x.numberFor(4, 256), -1000);
    }

    private static void goodLines() {
        due.part("a line is good if it is 0 .. 3");
        for (int line = -5; line <= 8; line++) {
            boolean good = line >= 0 && line <= 3;
            EspAntiReplay x = new EspAntiReplay(8);
            due.is("receive on line " + line, x.receive(line, 2, 1), good ? 1 : -1);
            due.is("burst on line " + line, x.burst(line, 3, 1, 2), good ? 2 : -1);
            due.is("top of line " + line, x.top(line), good ? 4 : -1);
            due.is("accepted of line " + line, x.accepted(line), good ? 3 : -1);
            due.is("count of line " + line, x.count(line, 1), good ? 3 : -1);
            due.is("numberFor of line " + line, x.numberFor(line, 7), good ? 7 : -1000);
            due.is("has of line " + line, x.has(line, 2), good ? 1 : -1);
            due.is("inWindow of line " + line, x.inWindow(line), good ? 3 : -1);
            due.is("lost of line " + line, x.lost(line), good ? 0 : -1);
            due.is("gap of line " + line, x.gap(line), good ? 1 : -1);
            due.is("limits of line " + line, x.limits(line, 2, 3), good ? 1 : -1);
            due.is("dead of line " + line, x.dead(line), good ? 1 : -1);
            due.is("aging of line " + line, x.aging(line), good ? 1 : -1);
            due.is("rekey of line " + line, x.rekey(line), good ? 3 : -1);
        }
    }
}
