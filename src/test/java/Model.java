import java.util.ArrayList;
import java.util.List;
import java.util.TreeSet;

/** The document's words taken literally, by counting and searching, as a second opinion. */
final class Model {
    private final int w;
    private final List<TreeSet<Integer>> accepted = new ArrayList<>();
    private final int[] soft = {40, 40, 40, 40};
    private final int[] hard = {60, 60, 60, 60};
    private final int[][] counts = new int[4][6];

    Model(int window) {
        w = Math.max(4, Math.min(64, window));
        for (int line = 0; line < 4; line++) accepted.add(new TreeSet<>());
    }

    private static boolean within(int value, int least, int most) {
        return least <= value && value <= most;
    }

    private static boolean badLine(int line) {
        return !within(line, 0, 3);
    }

    private int topOf(int line) {
        return accepted.get(line).isEmpty() ? 0 : accepted.get(line).last();
    }

    private boolean deadNow(int line) {
        return accepted.get(line).size() >= hard[line];
    }

    private int numberOf(int line, int low) {
        int s = topOf(line) - w + 1;
        while (Math.floorMod(s, 256) != low) s++;
        return s;
    }

    private int verdict(int line, int low, boolean proven) {
        int s = numberOf(line, low);
        if (deadNow(line)) return 5;
        if (s < 1) return 3;
        if (accepted.get(line).contains(s)) return 2;
        if (!proven) return 4;
        accepted.get(line).add(s);
        return 1;
    }

    private int counted(int line, int low, boolean proven) {
        int verdict = verdict(line, low, proven);
        counts[line][verdict]++;
        return verdict;
    }

    int window() {
        return w;
    }

    int receive(int line, int low, int proof) {
        if (badLine(line)) return -1;
        if (!within(low, 0, 255)) return -2;
        return counted(line, low, proof != 0);
    }

    int burst(int line, int low, int step, int count) {
        if (badLine(line)) return -1;
        if (!within(low, 0, 255)) return -2;
        if (!within(step, -64, 64)) return -3;
        if (!within(count, 1, 40)) return -4;
        int good = 0;
        int part = low;
        for (int i = 0; i < count; i++) {
            if (counted(line, part, true) == 1) good++;
            part = Math.floorMod(part + step, 256);
        }
        return good;
    }

    int rekey(int line) {
        if (badLine(line)) return -1;
        int before = accepted.get(line).size();
        accepted.get(line).clear();
        return before;
    }

    int limits(int line, int newSoft, int newHard) {
        if (badLine(line)) return -1;
        if (!within(newHard, 1, 60)) return -2;
        if (!within(newSoft, 0, newHard)) return -3;
        soft[line] = newSoft;
        hard[line] = newHard;
        return deadNow(line) ? 1 : 0;
    }

    int top(int line) {
        return badLine(line) ? -1 : topOf(line);
    }

    int accepted(int line) {
        return badLine(line) ? -1 : accepted.get(line).size();
    }

    int dead(int line) {
        return badLine(line) ? -1 : deadNow(line) ? 1 : 0;
    }

    int aging(int line) {
        return badLine(line) ? -1 : accepted.get(line).size() >= soft[line] ? 1 : 0;
    }

    int count(int line, int verdict) {
        if (badLine(line)) return -1;
        return within(verdict, 1, 5) ? counts[line][verdict] : -2;
    }

    int numberFor(int line, int low) {
        return badLine(line) || !within(low, 0, 255) ? -1000 : numberOf(line, low);
    }

    int has(int line, int number) {
        return badLine(line) ? -1 : accepted.get(line).contains(number) ? 1 : 0;
    }

    int inWindow(int line) {
        if (badLine(line)) return -1;
        int found = 0;
        for (int n = topOf(line) - w + 1; n <= topOf(line); n++) if (accepted.get(line).contains(n)) found++;
        return found;
    }

    int lost(int line) {
        if (badLine(line)) return -1;
        int found = 0;
        for (int n = 1; n <= topOf(line); n++) {
            if (!accepted.get(line).contains(n) && n < topOf(line) - w + 1) found++;
        }
        return found;
    }

    int gap(int line) {
        if (badLine(line)) return -1;
        int best = 0;
        for (int n = 1; n < topOf(line); n++) {
            if (n >= topOf(line) - w + 1 && !accepted.get(line).contains(n)) best = n;
        }
        return best;
    }
}
