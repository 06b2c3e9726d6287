import java.util.ArrayList;
import java.util.HashSet;
import java.util.List;
import java.util.Set;
import java.util.regex.Matcher;
import java.util.regex.Pattern;

/** Promises 4, 5 and 9 on made-up texts, some of them spoilt, beside a plain reading of their tokens. */
public final class ParseTest {
    private static final Check CHECK = new Check("ParseTest");
    private static final Set<String> LINE_WORDS = Set.of("state", "sign", "rule", "goal", "to", "cost", "more");
    private static final Pattern TOKEN = Pattern.compile("[a-z]+|[0-9]+[a-z]?|[^ \n]", Pattern.DOTALL);
    private static final String[] PIECES = {"state ", "sign ", "rule ", "goal ", " to ", " cost ", " more ", ";", " ", "\n", "p", "q",
        "a", "b", "c", "zz", " 5", " 0", " 100", " 99", "7x", "1234", "!", "abcdefg", "\u00ff", "state z;", "sign y;", "p a", "aa"};

    private final String text;
    private final List<String> tokens = new ArrayList<>();
    private final List<Integer> places = new ArrayList<>();
    private final List<String> states = new ArrayList<>();
    private final List<String> signs = new ArrayList<>();
    private int rules = 0;
    private int goals = 0;
    private int next = 0;
    private int fault = 0;
    private int place = -1;

    private ParseTest(String text) {
        this.text = text;
        Matcher matcher = TOKEN.matcher(text);
        while (matcher.find()) {
            tokens.add(matcher.group());
            places.add(matcher.start());
        }
    }

    public static void main(String[] args) {
        Sample.Row row = new Sample.Row(99);
        int faultless = 0;
        for (int i = 0; i < 20000; i++) {
            String text = new Sample(row, 5, 6, 14, 99).text();
            for (int spoils = row.below(4); spoils > 0; spoils--) {
                text = spoilt(text, row);
            }
            if (text.length() > 800) {
                continue;
            }
            CallSteps x = new CallSteps();
            int rules = Check.system(x, text);
            ParseTest read = new ParseTest(text);
            read.system();
            faultless += read.fault == 0 ? 1 : 0;
            CHECK.due("4 " + text, rules, read.fault == 0 ? read.rules : -1);
            CHECK.due("5 fault of " + text, x.fault(0), read.fault);
            CHECK.due("5 place in " + text, x.fault(1), read.place);
            CHECK.due("6 tape", x.about(6), 0);
            if (read.fault == 0) {
                CHECK.due("6 states", x.about(0), read.states.size());
                CHECK.due("6 signs", x.about(1), read.signs.size());
                CHECK.due("6 goals", x.about(3), read.goals);
                place(x, read, row);
            }
        }
        CHECK.due("some are faultless", faultless > 2000, true);
        CHECK.close();
    }

    private static String spoilt(String text, Sample.Row row) {
        int at = row.below(text.length() + 1);
        int cut = Math.min(text.length(), at + row.below(3) * row.below(5));
        String piece = row.below(3) == 0 ? "" : PIECES[row.below(PIECES.length)];
        return row.below(12) == 0 ? text.substring(0, at) : text.substring(0, at) + piece + text.substring(cut);
    }

    private static void place(CallSteps x, ParseTest system, Sample.Row row) {
        StringBuilder text = new StringBuilder("pqrst".substring(row.below(5)).substring(0, 1));
        int n = row.below(6) == 0 ? 36 + row.below(8) : row.below(6);
        for (int i = 0; i < n; i++) {
            text.append(' ').append((char) ('a' + row.below(4)));
        }
        String told = row.below(3) == 0 ? spoilt(text.toString(), row) : text.toString();
        ParseTest read = new ParseTest(told);
        read.states.addAll(system.states);
        read.signs.addAll(system.signs);
        int signs = read.placeSigns();
        CHECK.due("9 " + told, Check.at(x, told), signs);
        CHECK.due("9 fault of " + told, x.fault(0), read.fault);
        CHECK.due("9 place in " + told, x.fault(1), read.place);
        CHECK.due("9 now", x.now(1), signs == -1 ? -2 : signs);
    }

    private String token() {
        return next < tokens.size() ? tokens.get(next) : "";
    }

    private boolean fail(int kind) {
        return failAt(kind, next < places.size() ? places.get(next) : text.length());
    }

    private boolean failAt(int kind, int where) {
        if (fault == 0) {
            fault = kind;
            place = where;
        }
        return false;
    }

    private boolean isNoToken() {
        return !token().isEmpty() && !token().matches("[a-z]{1,6}|[0-9]{1,3}|;");
    }

    private boolean isName() {
        return token().matches("[a-z]{1,6}") && !LINE_WORDS.contains(token());
    }

    private boolean cantStand() {
        return fail(isNoToken() ? 1 : 2);
    }

    private boolean word(String wanted) {
        if (!token().equals(wanted)) {
            return cantStand();
        }
        next++;
        return true;
    }

    private boolean newName(List<String> names) {
        if (!isName()) {
            return cantStand();
        }
        Set<String> all = new HashSet<>(states);
        all.addAll(signs);
        if (all.contains(token())) {
            return fail(3);
        }
        names.add(token());
        next++;
        return true;
    }

    private boolean oldName(List<String> names) {
        if (!isName()) {
            return cantStand();
        }
        if (!names.contains(token())) {
            return fail(3);
        }
        next++;
        return true;
    }

    private boolean someSigns(int most) {
        for (int i = 0; i < most && isName(); i++) {
            if (!oldName(signs)) {
                return false;
            }
        }
        return true;
    }

    private boolean cost() {
        if (!token().equals("cost")) {
            return true;
        }
        next++;
        if (!token().matches("[0-9]{1,3}")) {
            return cantStand();
        }
        int cost = Integer.parseInt(token());
        if (cost < 1 || cost > 99) {
            return fail(4);
        }
        next++;
        return true;
    }

    private boolean more() {
        if (token().equals("more")) {
            next++;
        }
        return true;
    }

    private void system() {
        boolean whole = true;
        while (whole && next < tokens.size()) {
            int line = next;
            next++;
            switch (tokens.get(line)) {
                case "state" -> whole = states.size() == 5 ? failAt(5, places.get(line)) : newName(states) && word(";");
                case "sign" -> whole = signs.size() == 6 ? failAt(5, places.get(line)) : newName(signs) && word(";");
                case "rule" -> {
                    whole = rules == 14 ? failAt(5, places.get(line)) : oldName(states) && oldName(signs) && word("to")
                        && oldName(states) && someSigns(2) && cost() && word(";");
                    rules++;
                }
                case "goal" -> {
                    whole = goals == 4 ? failAt(5, places.get(line)) : oldName(states) && someSigns(3) && more() && word(";");
                    goals++;
                }
                default -> {
                    next = line;
                    whole = cantStand();
                }
            }
        }
    }

    private int placeSigns() {
        if (!oldName(states)) {
            return -1;
        }
        for (int count = 0; ; count++) {
            if (next >= tokens.size()) {
                return count;
            }
            if (count == 40) {
                cantStand();
                return -1;
            }
            if (!oldName(signs)) {
                return -1;
            }
        }
    }
}
