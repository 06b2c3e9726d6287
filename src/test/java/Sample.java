import java.util.ArrayList;
import java.util.List;

/** A made-up SYSTEM, its text, and numbers by a fixed row, so that every run of the tests is the same. */
final class Sample {
    private static final String[] STATE_NAMES = {"p", "q", "r", "s", "t"};
    private static final String[] SIGN_NAMES = {"a", "b", "c", "d", "e", "f"};

    final int states;
    final int signs;
    /** Each: STATE, SIGN, STATE then, COST, SIGNS then. */
    final List<int[]> rules = new ArrayList<>();
    /** Each: STATE, 1 with more, SIGNS. */
    final List<int[]> goals = new ArrayList<>();
    private final Row row;

    /** A row of numbers that look as if they came by chance. */
    static final class Row {
        private long now;

        Row(long seed) {
            now = seed;
        }

        int below(int n) {
            now = now * 6364136223846793005L + 1442695040888963407L;
            return (int) ((now >>> 33) % n);
        }
    }

    Sample(Row row, int mostStates, int mostSigns, int mostRules, int mostCost) {
        this.row = row;
        states = 1 + row.below(mostStates);
        signs = 1 + row.below(mostSigns);
        int count = row.below(mostRules + 1);
        int pushes = 1 + row.below(3);
        for (int i = 0; i < count; i++) {
            int kind = row.below(4 + pushes);
            int length = kind < 2 ? 0 : kind < 4 ? 1 : 2;
            int[] rule = new int[4 + length];
            rule[0] = row.below(states);
            rule[1] = row.below(signs);
            rule[2] = row.below(states);
            rule[3] = 1 + row.below(mostCost);
            fill(rule, 4);
            rules.add(rule);
        }
        int goalCount = row.below(5);
        for (int i = 0; i < goalCount; i++) {
            int[] goal = new int[2 + row.below(4)];
            goal[0] = row.below(states);
            goal[1] = row.below(3) == 0 ? 1 : 0;
            fill(goal, 2);
            goals.add(goal);
        }
    }

    private void fill(int[] cells, int from) {
        for (int i = from; i < cells.length; i++) {
            cells[i] = row.below(signs);
        }
    }

    String text() {
        StringBuilder text = new StringBuilder();
        for (int i = 0; i < states; i++) {
            text.append("state ").append(STATE_NAMES[i]).append(';');
        }
        for (int i = 0; i < signs; i++) {
            text.append("sign ").append(SIGN_NAMES[i]).append(';');
        }
        for (int[] rule : rules) {
            text.append("rule ").append(STATE_NAMES[rule[0]]).append(' ').append(SIGN_NAMES[rule[1]]);
            text.append(" to ").append(STATE_NAMES[rule[2]]);
            addSigns(text, rule, 4);
            text.append(rule[3] == 1 ? "" : " cost " + rule[3]).append(';');
        }
        for (int[] goal : goals) {
            text.append("goal ").append(STATE_NAMES[goal[0]]);
            addSigns(text, goal, 2);
            text.append(goal[1] == 1 ? " more" : "").append(';');
        }
        return text.toString();
    }

    private static void addSigns(StringBuilder text, int[] cells, int from) {
        for (int i = from; i < cells.length; i++) {
            text.append(' ').append(SIGN_NAMES[cells[i]]);
        }
    }

    static String placeText(int state, String stack) {
        StringBuilder text = new StringBuilder(STATE_NAMES[state]);
        for (int i = 0; i < stack.length(); i++) {
            text.append(' ').append(SIGN_NAMES[stack.charAt(i) - '0']);
        }
        return text.toString();
    }

    /** A STACK: a digit for each SIGN, top first. */
    String stack(int mostHeight) {
        StringBuilder stack = new StringBuilder();
        int height = row.below(mostHeight + 1);
        for (int i = 0; i < height; i++) {
            stack.append((char) ('0' + row.below(signs)));
        }
        return stack.toString();
    }

    /** The PLACE behind a RULE, as its STATE's digit and its STACK; null, if it is not of this HEAD. */
    String behind(String place, int r) {
        int[] rule = rules.get(r);
        if (place.length() < 2 || place.charAt(0) - '0' != rule[0] || place.charAt(1) - '0' != rule[1]) {
            return null;
        }
        StringBuilder next = new StringBuilder().append((char) ('0' + rule[2]));
        for (int i = 4; i < rule.length; i++) {
            next.append((char) ('0' + rule[i]));
        }
        return next.append(place, 2, place.length()).toString();
    }

    boolean isAtGoal(String place) {
        for (int[] goal : goals) {
            StringBuilder start = new StringBuilder().append((char) ('0' + goal[0]));
            for (int i = 2; i < goal.length; i++) {
                start.append((char) ('0' + goal[i]));
            }
            boolean is = goal[1] == 1 ? place.startsWith(start.toString()) : place.equals(start.toString());
            if (is) {
                return true;
            }
        }
        return false;
    }
}
