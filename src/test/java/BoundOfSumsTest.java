import java.lang.reflect.Field;
import java.lang.reflect.Method;

/**
 * Terms 2: sums above 1,000,000,000,000,000 are told as that, and count so. No SYSTEM is known whose COSTS come near
 * (1 .. 99, fourteen RULES), so this test puts greater numbers into an object's own rows; it names what is private there.
 */
public final class BoundOfSumsTest {
    private static final Check CHECK = new Check("BoundOfSumsTest");
    private static final long BOUND = 1_000_000_000_000_000L;
    /** One POP of 18061 STEPS: the longest that a search through SYSTEMS of fourteen RULES found. */
    private static final String LONG_POP = Full.NAMES + "rule t c to t b e;rule q d to p;rule t b to q;rule q e to p c c;rule t e to s d b;"
        + "rule p c to t b d;rule t b to p b e;rule p a to s c c;rule q f to s;rule s c to q e f;rule s d to p a c;rule p d to t;"
        + "rule p b to s d d;rule p f to t c c;goal p;goal q;goal r;goal s;";
    /** From state r each sign d is popped by 12583 STEPS, back to r: of forty, the most that was found. Each RULE is needed. */
    private static final String LONG_WAY = "rule t c to p a a;rule t d to p;rule s c to r;rule s e to s f f;rule r d to t f f;rule s a to s e e;"
        + "rule t f to t a a;rule p a to s c d;rule p c to s;rule s c to s a a;rule t e to s f a;rule t a to s c a;rule s f to r d c;rule r a to t;";
    private static final long LONG_STEPS = 12583;

    public static void main(String[] args) throws ReflectiveOperationException {
        sums();
        longPops();
        edges();
        dearRules();
        CHECK.close();
    }

    private static void due(String what, long got, long want) {
        CHECK.due(what, got, want);
    }

    private static Object inside(Object of, String name) throws ReflectiveOperationException {
        Field field = of.getClass().getDeclaredField(name);
        field.setAccessible(true);
        return field.get(of);
    }

    private static void sums() throws ReflectiveOperationException {
        Method sum = Class.forName("CallSteps$Longs").getDeclaredMethod("sum", long.class, long.class);
        sum.setAccessible(true);
        long none = BOUND + 1;
        long[][] rows = {{0, 0, 0}, {BOUND - 2, 1, BOUND - 1}, {BOUND - 1, 0, BOUND - 1}, {BOUND - 1, 1, BOUND}, {1, BOUND - 1, BOUND},
            {BOUND - 1, 2, BOUND}, {BOUND, 0, BOUND}, {0, BOUND, BOUND}, {BOUND, 1, BOUND}, {BOUND, BOUND, BOUND}, {BOUND / 2, BOUND / 2, BOUND},
            {none, 0, none}, {0, none, none}, {none, none, none}, {none, BOUND, none}, {BOUND, none, none}};
        for (long[] row : rows) {
            due("sum of " + row[0] + " and " + row[1], (Long) sum.invoke(null, row[0], row[1]), row[2]);
        }
    }

    /** The greatest sums that COSTS of 1 .. 99 are known to come to: far below the bound. */
    private static void longPops() {
        CallSteps x = Check.made(LONG_POP);
        due("17 the longest pop", x.pops(0, 2, 3), 18061);
        CallSteps y = Check.made(Full.NAMES + LONG_WAY + "goal r;");
        CallSteps dear = Check.made(Full.NAMES + LONG_WAY.replace(";", " cost 99;") + "goal r;");
        for (int n = 0; n <= 40; n += 8) {
            Check.at(y, "r" + " d".repeat(n));
            due("15 long, of " + n, y.cost(), n * LONG_STEPS);
            due("16 long, of " + n, y.way(-1), n == 0 ? 0 : -2);
            due("19 long, of " + n, y.comes(2, -1), n * LONG_STEPS);
            due("18 long, of " + n, y.matters(13), n == 0 ? 0 : -1);
            Check.at(dear, "r" + " d".repeat(n));
            due("15 long at 99, of " + n, dear.cost(), 99 * n * LONG_STEPS);
        }
    }

    /** Of an object that has told a COST: POP of the first STATE, the first SIGN to the first STATE becomes this. */
    private static void plantPop(CallSteps x, long pop) throws ReflectiveOperationException {
        long[] edges = (long[]) inside(inside(inside(x, "goalCosts"), "edges"), "cells");
        edges[0] = pop;
    }

    private static CallSteps withPop(long pop, String place) throws ReflectiveOperationException {
        CallSteps x = Check.made("state p;sign a;sign b;rule p a to p;goal p;", place);
        x.cost();
        plantPop(x, pop);
        return x;
    }

    private static void edges() throws ReflectiveOperationException {
        long half = BOUND / 2;
        long[][] rows = {{half, 1, half}, {half, 2, BOUND}, {half - 1, 2, BOUND - 2}, {half + 1, 2, BOUND}, {half, 3, BOUND}, {BOUND - 1, 1, BOUND - 1},
            {BOUND, 1, BOUND}, {BOUND, 2, BOUND}, {BOUND, 40, BOUND}, {BOUND / 40, 40, BOUND}, {BOUND / 40 - 1, 40, BOUND - 40}};
        for (long[] row : rows) {
            CallSteps x = withPop(row[0], Full.high("p", (int) row[1]));
            due("17 pop of " + row[0], x.pops(0, 0, 0), row[0]);
            due("15 cost by pops of " + row[0], x.cost(), row[2]);
            due("16 its way is too long", x.way(-1), -2);
            due("16 whatever i", x.way(0), -2);
            due("28 it has a cost", x.good(0, x.next(0, 0, 0)), 1);
            due("20 it goes on below", x.height(), row[1]);
        }
        CallSteps x = withPop(BOUND, "p a b");
        due("15 a sum that there is not", x.cost(), -1);
        due("16 no way", x.way(-1), -1);
        CallSteps y = Check.made("state p;sign a;sign b;rule p a to p;rule p b to p b;", "p a b");
        y.cost();
        plantPop(y, BOUND);
        due("23 what is below is come to", y.endless(), 1);
    }

    /** A text's COSTS, made as great as a number can be. */
    private static CallSteps withDearRules(String text) throws ReflectiveOperationException {
        CallSteps x = Check.made(text);
        int[] cells = (int[]) inside(inside(inside(x, "program"), "ruleCells"), "cells");
        for (int r = 0; r < x.about(2); r++) {
            cells[r * 7 + 6] = Integer.MAX_VALUE;
            due("7 cost of " + r, x.rule(r, 6), Integer.MAX_VALUE);
        }
        return x;
    }

    /** Thirty-seven SIGNS come to just below the bound, thirty-eight above it. */
    private static void dearRules() throws ReflectiveOperationException {
        CallSteps x = withDearRules(Full.NAMES + LONG_WAY + "goal r;goal r b;");
        for (int n = 0; n <= 40; n++) {
            long sum = n * LONG_STEPS * Integer.MAX_VALUE;
            long told = Math.min(BOUND, sum);
            Check.at(x, "r" + " d".repeat(n));
            due("15 dear, of " + n, x.cost(), told);
            due("16 dear, of " + n, x.way(-1), n == 0 ? 0 : -2);
            due("19 dear, of " + n, x.comes(2, -1), told);
            due("18 dear, of " + n, x.matters(0), n == 0 ? 0 : -1);
        }
        due("15 some are above the bound", x.cost(), BOUND);
        Check.at(x, "r" + " d".repeat(38) + " b");
        due("15 above it, a sign below", x.cost(), BOUND);
        due("19 the head above it", x.comes(2, 1), BOUND);
    }
}
