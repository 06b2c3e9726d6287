import java.nio.charset.StandardCharsets;
import java.util.NoSuchElementException;

/** What the tests share: answers compared with those that are due, texts put on a TAPE. */
final class Check {
    private final String test;
    private int calls = 0;
    private int wrong = 0;

    Check(String test) {
        this.test = test;
    }

    void due(String what, long got, long want) {
        calls++;
        if (got != want) {
            wrong++;
            System.out.println(test + ": " + what + " answered " + got + ", due is " + want);
        }
    }

    void due(String what, boolean got, boolean want) {
        due(what, got ? 1 : 0, want ? 1 : 0);
    }

    /** A call that may throw NoSuchElementException. */
    interface Asking {
        long answer();
    }

    void refused(String what, Asking asking) {
        calls++;
        try {
            long got = asking.answer();
            wrong++;
            System.out.println(test + ": " + what + " answered " + got + ", NoSuchElementException is due");
        } catch (NoSuchElementException asDue) {
            // This is what is due.
        }
    }

    void close() {
        System.out.println(test + ": " + calls + " answers, " + wrong + " wrong");
        if (wrong != 0) {
            System.exit(1);
        }
    }

    static void tell(CallSteps x, String text) {
        byte[] bytes = text.getBytes(StandardCharsets.ISO_8859_1);
        int before = x.about(6);
        for (int from = 0; from < bytes.length; from += 20) {
            int[] n = new int[5];
            for (int i = 0; i < 20; i++) {
                int b = from + i < bytes.length ? bytes[from + i] & 255 : 32;
                n[i / 4] = n[i / 4] << 8 | b;
            }
            x.feed(n[0], n[1], n[2], n[3], n[4]);
        }
        x.end(before + bytes.length);
    }

    static int system(CallSteps x, String text) {
        tell(x, text);
        return x.system();
    }

    static int at(CallSteps x, String text) {
        tell(x, text);
        return x.at();
    }

    /** What an object of a small SYSTEM answers of all that stands in it, but of its TAPE and its FAULT. */
    static String standing(CallSteps x) {
        StringBuilder seen = new StringBuilder();
        for (int what = 0; what <= 5; what++) {
            seen.append(x.about(what)).append(' ');
        }
        for (int k = 0; k < 2; k++) {
            for (int what = 0; what <= 7; what++) {
                seen.append(x.rule(k, what)).append(' ');
            }
        }
        for (int what : new int[] {0, 1, 2, 10}) {
            seen.append(x.goal(0, what)).append(' ');
        }
        for (int what : new int[] {0, 1, 2, 10, 11, 12}) {
            seen.append(x.now(what)).append(' ');
        }
        seen.append(x.can()).append(' ').append(x.cost()).append(' ').append(x.way(-1)).append(' ').append(x.matters(0));
        seen.append(' ').append(x.height()).append(' ').append(x.endless()).append(' ').append(x.longest()).append(' ');
        seen.append(x.stuck()).append(' ').append(x.comes(0, -1)).append(' ').append(x.machine(0)).append(' ').append(x.stacks(0, 2));
        return seen.toString();
    }

    void stays(String what, CallSteps x, String before) {
        calls++;
        String after = standing(x);
        if (!after.equals(before)) {
            wrong++;
            System.out.println(test + ": " + what + ": what stood was " + before + ", is " + after);
        }
    }

    static CallSteps made(String text) {
        CallSteps x = new CallSteps();
        if (system(x, text) < 0) {
            throw new IllegalArgumentException("fault " + x.fault(0) + " at " + x.fault(1) + " of: " + text);
        }
        return x;
    }

    static CallSteps made(String text, String place) {
        CallSteps x = made(text);
        if (at(x, place) < 0) {
            throw new IllegalArgumentException("fault " + x.fault(0) + " at " + x.fault(1) + " of: " + place);
        }
        return x;
    }
}
