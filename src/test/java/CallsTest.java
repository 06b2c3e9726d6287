import java.util.ArrayDeque;
import java.util.ArrayList;
import java.util.Deque;
import java.util.List;
import java.util.NoSuchElementException;

/**
 * Promises 9 to 14 and 32 by rows of made-up calls, beside a NOW that is kept plainly; and all calls with
 * arguments of all sorts: none throws but where NoSuchElementException is due, and what only asks changes nothing.
 */
public final class CallsTest {
    private static final Check CHECK = new Check("CallsTest");
    private static final int[] ODD = {0, 1, 2, 3, 4, 5, 6, 7, 8, 10, 11, 13, 14, 15, 31, 32, 33, 63, 64, 100, 101, -1, -2, -3, -32,
        Integer.MAX_VALUE, Integer.MIN_VALUE, Integer.MAX_VALUE - 9, Integer.MIN_VALUE + 9};

    private record Kept(String place, int out) { }

    private final Sample sample;
    private final CallSteps x;
    private final Sample.Row row;
    private final Deque<Kept> acts = new ArrayDeque<>();
    private String place = "";
    private int out = 0;
    /** Behind the 512th call nothing is promised. */
    private int calls = 60;

    private CallsTest(Sample sample, Sample.Row row) {
        this.sample = sample;
        this.row = row;
        x = Check.made(sample.text());
    }

    /** Whether so many calls more are promised, some being kept for others. */
    private boolean mayCall(int more, int kept) {
        calls += more;
        return calls <= 512 - kept;
    }

    public static void main(String[] args) {
        Sample.Row row = new Sample.Row(31337);
        for (int i = 0; i < 2000; i++) {
            CallsTest test = new CallsTest(new Sample(row, 3, 3, 14, 9), row);
            // An act takes eight calls at most, a question three.
            while (test.mayCall(8, 150)) {
                test.act();
                if (row.below(3) == 0) {
                    test.compare();
                }
            }
            while (test.mayCall(3, 50)) {
                test.ask();
            }
            test.compare();
        }
        CHECK.close();
    }

    private void keep() {
        acts.addLast(new Kept(place, out));
        if (acts.size() > 12) {
            acts.removeFirst();
        }
    }

    private List<Integer> steps() {
        List<Integer> steps = new ArrayList<>();
        for (int r = 0; r < sample.rules.size(); r++) {
            String next = (out >> r & 1) == 1 ? null : sample.behind(place, r);
            if (next != null && next.length() <= 41) {
                steps.add(r);
            }
        }
        return steps;
    }

    private void act() {
        switch (row.below(9)) {
            case 0 -> told();
            case 1, 2, 3 -> step(row.below(20) - 2);
            case 4, 5 -> run(row.below(1 << 30) * 4 + row.below(4), row.below(8) == 0 ? row.below(110) - 3 : 1 + row.below(6));
            case 6 -> out(row.below(sample.rules.size() + 2) - 1, row.below(3) == 0);
            case 7 -> undo();
            default -> step(steps().isEmpty() ? -1 : steps().get(row.below(steps().size())));
        }
    }

    private void told() {
        int state = row.below(sample.states);
        String stack = sample.stack(row.below(6) == 0 ? 43 : 6);
        int answer = Check.at(x, Sample.placeText(state, stack));
        CHECK.due("9 at", answer, stack.length() > 40 ? -1 : stack.length());
        if (stack.length() <= 40) {
            keep();
            place = state + stack;
        }
    }

    private void step(int r) {
        int answer = x.step(r);
        if (!steps().contains(r)) {
            CHECK.due("12 can't", answer, -1);
            return;
        }
        keep();
        place = sample.behind(place, r);
        CHECK.due("12 step", answer, place.length() - 1);
    }

    private void run(int seed, int n) {
        int answer = x.run(seed, n);
        if (place.isEmpty() || n < 1 || n > 100) {
            CHECK.due("13 not run", answer, -1);
            return;
        }
        keep();
        int value = seed;
        int done = 0;
        while (done < n && !steps().isEmpty()) {
            value = value * 1103515245 + 12345;
            place = sample.behind(place, steps().get((value >>> 16) % steps().size()));
            done++;
        }
        CHECK.due("13 run", answer, done);
    }

    private void out(int r, boolean is) {
        boolean can = r >= 0 && r < sample.rules.size() && (out >> r & 1) != (is ? 1 : 0);
        CHECK.due("32 out", x.out(r, is), can);
        if (can) {
            keep();
            out ^= 1 << r;
        }
    }

    private void undo() {
        CHECK.due("14 undo", x.undo(), !acts.isEmpty());
        if (!acts.isEmpty()) {
            Kept kept = acts.removeLast();
            place = kept.place;
            out = kept.out;
        }
    }

    private void compare() {
        CHECK.due("6 out", x.about(4), out);
        CHECK.due("6 acts", x.about(5), acts.size());
        int bits = 0;
        for (int r : steps()) {
            bits |= 1 << r;
        }
        CHECK.due("11 can", x.can(), bits);
        CHECK.due("10 state", x.now(0), place.isEmpty() ? -2 : place.charAt(0) - '0');
        CHECK.due("10 signs", x.now(1), place.isEmpty() ? -2 : place.length() - 1);
        CHECK.due("10 goal", x.now(2), place.isEmpty() ? -2 : sample.isAtGoal(place) ? 1 : 0);
        calls += 6 + Math.max(1, place.length());
        for (int i = 0; i < Math.max(1, place.length()); i++) {
            CHECK.due("10 sign", x.now(10 + i), i + 1 < place.length() ? place.charAt(i + 1) - '0' : -2);
        }
    }

    private int odd() {
        return ODD[row.below(ODD.length)];
    }

    private void ask() {
        int a = odd();
        int b = odd();
        int c = odd();
        boolean isHead = a >= 0 && a < sample.states && b >= 0 && b < sample.signs;
        switch (row.below(25)) {
            case 0 -> CHECK.due("5", x.fault(a), a == 0 ? x.fault(0) : a == 1 ? x.fault(1) : -1);
            case 1 -> CHECK.due("6", x.about(a) == -1, a < 0 || a > 6);
            case 2 -> CHECK.due("7", x.rule(a, b) == -2, a < 0 || a >= sample.rules.size() || b < 0 || b > 7);
            case 3 -> CHECK.due("8", x.goal(a, b) == -2, a < 0 || a >= sample.goals.size() || b < 0
                || b > 2 && (b < 10 || b >= 8 + sample.goals.get(a).length));
            case 4 -> CHECK.due("10", x.now(a) == -2, place.isEmpty() || a < 0 || a > 2 && (a < 10 || a >= 9 + place.length()));
            case 5 -> CHECK.due("3", x.end(a), a == 0 ? 0 : -1);
            case 6 -> CHECK.due("16", x.way(a) >= -2, true);
            case 7 -> thrown("17", () -> x.pops(a, b, c), !isHead || c < 0 || c >= sample.states);
            case 8 -> CHECK.due("18", x.matters(a) >= -2, true);
            case 9 -> CHECK.due("19", x.comes(a, b) >= (isHead || b == -1 && a >= 0 && a < sample.states ? -1 : 0), isHead
                || b == -1 && a >= 0 && a < sample.states);
            case 10 -> thrown("21", () -> x.rises(a, b), !isHead);
            case 11 -> thrown("22", () -> x.lasts(a, b), !isHead);
            case 12 -> CHECK.due("26", x.machine(a) == -1, a < 0 || a >= sample.states);
            case 13 -> CHECK.due("27", x.next(a, c, b) == -1, !isHead || c < 0 || c >= x.machine(a));
            case 14 -> CHECK.due("28", x.good(a, b) == -1, a < 0 || a >= sample.states || b < 0 || b >= x.machine(a));
            case 15 -> CHECK.due("29", x.stacks(a, b) == -1, a < 0 || a >= sample.states || b < 0 || b > 12);
            case 16 -> CHECK.due("30", x.shortest(a, b) >= -1, true);
            case 17 -> CHECK.due("31", x.same(a, b) == -1, a < 0 || a >= sample.states || b < 0 || b >= sample.states);
            case 18 -> CHECK.due("12", steps().contains(a) || x.step(a) == -1, true);
            case 19 -> CHECK.due("13", a >= 1 && a <= 100 || x.run(b, a) == -1, true);
            case 20 -> CHECK.due("20", x.height() >= -2, true);
            case 21 -> CHECK.due("23", x.endless() == -1, place.isEmpty());
            case 22 -> CHECK.due("24", x.longest() == -2, place.isEmpty());
            case 23 -> CHECK.due("25", x.stuck() >= -1, true);
            default -> CHECK.due("15", x.cost() >= -1, true);
        }
    }

    private static void thrown(String what, Check.Asking asking, boolean isDue) {
        boolean was = false;
        try {
            asking.answer();
        } catch (NoSuchElementException e) {
            was = true;
        }
        CHECK.due(what + " throws", was, isDue);
    }
}
