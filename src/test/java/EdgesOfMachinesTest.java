/** The bounds, the empty and the full cases: MACHINES of Terms 2, promises 26 to 31. */
public final class EdgesOfMachinesTest {
    private static final Check CHECK = new Check("EdgesOfMachinesTest");
    private static final int LEAST = Integer.MIN_VALUE;
    private static final int MOST = Integer.MAX_VALUE;
    private static final int[] NO_STATES = {5, 6, -1, -2, LEAST, MOST};

    /**
     * The MACHINES of Full: p and r have a COST with each STACK; q with those that begin with a;
     * t with those of a, d, f alone that end in fff, af or aff; s with c ahead of such a one.
     */
    private static final int[][][] NEXT = {
        {{0, 0, 0, 0, 0, 0}},
        {{1, 2, 2, 2, 2, 2}, {1, 1, 1, 1, 1, 1}, {2, 2, 2, 2, 2, 2}},
        {{0, 0, 0, 0, 0, 0}},
        {{1, 1, 2, 1, 1, 1}, {1, 1, 1, 1, 1, 1}, {3, 1, 1, 2, 1, 4}, {3, 1, 1, 2, 1, 5}, {3, 1, 1, 2, 1, 3}, {3, 1, 1, 2, 1, 5}},
        {{1, 2, 2, 0, 2, 3}, {1, 2, 2, 0, 2, 4}, {2, 2, 2, 2, 2, 2}, {1, 2, 2, 0, 2, 1}, {1, 2, 2, 0, 2, 4}}};
    private static final int[][] GOOD = {{1}, {0, 1, 0}, {1}, {0, 0, 0, 0, 0, 1}, {0, 0, 0, 0, 1}};

    public static void main(String[] args) {
        allNodes();
        noSuchStates();
        noSuchNodes();
        stacksOfEveryLength();
        stacksRefused();
        shortestOfAll();
        longShortest();
        shortestAmongManyNodes();
        firstOfLikeOnes();
        sameOfAll();
        nothingIsGood();
        withoutStatesOrSigns();
        aboveForty();
        nodesOfAGoal();
        outCounts();
        CHECK.close();
    }

    private static void due(String what, long got, long want) {
        CHECK.due(what, got, want);
    }

    // ---- promises 26, 27, 28: NONE if there is none such.

    private static void allNodes() {
        for (int p = 0; p < 5; p++) {
            CallSteps x = Check.made(Full.TEXT);
            due("26 nodes of " + p, x.machine(p), NEXT[p].length);
            for (int k = 0; k < NEXT[p].length; k++) {
                due("28 good " + p + " " + k, x.good(p, k), GOOD[p][k]);
                for (int g = 0; g < 6; g++) {
                    due("27 next " + p + " " + k + " " + g, x.next(p, k, g), NEXT[p][k][g]);
                }
            }
        }
    }

    private static void noSuchStates() {
        CallSteps x = Check.made(Full.TEXT);
        for (int p : NO_STATES) {
            due("26 state " + p, x.machine(p), -1);
            due("27 state " + p, x.next(p, 0, 0), -1);
            due("28 state " + p, x.good(p, 0), -1);
            due("29 state " + p, x.stacks(p, 0), -1);
            due("30 state " + p, x.shortest(p, -1), -1);
            due("30 state " + p + ", a sign", x.shortest(p, 0), -1);
            due("31 state " + p, x.same(p, 0), -1);
            due("31 second state " + p, x.same(0, p), -1);
            due("31 both " + p, x.same(p, p), -1);
        }
    }

    private static void noSuchNodes() {
        for (int p = 0; p < 5; p++) {
            CallSteps x = Check.made(Full.TEXT);
            int nodes = NEXT[p].length;
            for (int k : new int[] {nodes, nodes + 1, 64, 65, -1, -2, LEAST, MOST}) {
                for (int g = 0; g < 6; g++) {
                    due("27 node " + k + " of " + p + " by " + g, x.next(p, k, g), -1);
                }
                due("28 node " + k + " of " + p, x.good(p, k), -1);
            }
            for (int g : new int[] {6, 7, -1, -2, LEAST, MOST}) {
                for (int k = 0; k < nodes; k++) {
                    due("27 node " + k + " of " + p + " by sign " + g, x.next(p, k, g), -1);
                }
            }
        }
    }

    // ---- promise 29: n SIGNS (0 .. 12); NONE if one can't be.

    private static long power(int base, int n) {
        long power = 1;
        for (int i = 0; i < n; i++) {
            power *= base;
        }
        return power;
    }

    private static void stacksOfEveryLength() {
        CallSteps x = Check.made(Full.TEXT);
        for (int n = 0; n <= 12; n++) {
            long ofT = n < 2 ? 0 : n == 2 ? 1 : 5 * power(3, n - 3);
            long ofS = n < 3 ? 0 : n == 3 ? 1 : 5 * power(3, n - 4);
            due("29 all " + n, x.stacks(0, n), power(6, n));
            due("29 those with a " + n, x.stacks(1, n), n == 0 ? 0 : power(6, n - 1));
            due("29 all of r " + n, x.stacks(2, n), power(6, n));
            due("29 of s " + n, x.stacks(3, n), ofS);
            due("29 of t " + n, x.stacks(4, n), ofT);
        }
        due("29 the most", x.stacks(0, 12), 2176782336L);
        due("29 none again", x.stacks(0, 0), 1);
    }

    private static void stacksRefused() {
        CallSteps x = Check.made(Full.TEXT);
        for (int n : new int[] {13, 14, 40, 41, -1, -2, LEAST, MOST}) {
            for (int p = 0; p < 5; p++) {
                due("29 of " + n, x.stacks(p, n), -1);
            }
        }
        for (int p : NO_STATES) {
            for (int n : new int[] {0, 12, 13, -1}) {
                due("29 of state " + p + " " + n, x.stacks(p, n), -1);
            }
        }
    }

    // ---- promise 30: how many SIGNS (i NONE), the i-th; NONE if there is none such.

    private static void isShortest(CallSteps x, int p, int... signs) {
        due("30 signs of " + p, x.shortest(p, -1), signs.length);
        for (int i = 0; i < signs.length; i++) {
            due("30 sign " + i + " of " + p, x.shortest(p, i), signs[i]);
        }
        for (int i : new int[] {signs.length, signs.length + 1, -2, LEAST, MOST}) {
            due("30 none such " + i + " of " + p, x.shortest(p, i), -1);
        }
    }

    private static void shortestOfAll() {
        CallSteps x = Check.made(Full.TEXT);
        isShortest(x, 0);
        isShortest(x, 1, 0);
        isShortest(x, 2);
        isShortest(x, 3, 2, 0, 5);
        isShortest(x, 4, 0, 5);
    }

    /** Through all STATES, then three SIGNS of a GOAL. */
    private static void longShortest() {
        CallSteps x = Check.made(Full.NAMES + "rule p f to q;rule q e to r;rule r d to s;rule s c to t;goal t a a b;");
        isShortest(x, 0, 5, 4, 3, 2, 0, 0, 1);
        isShortest(x, 1, 4, 3, 2, 0, 0, 1);
        isShortest(x, 4, 0, 0, 1);
        due("29 seven", x.stacks(0, 7), 1);
        due("29 six", x.stacks(0, 6), 0);
        due("29 eight", x.stacks(0, 8), 0);
        due("26 and what is off", x.machine(0), 9);
        x.out(3, true);
        for (int i = -2; i <= 8; i++) {
            due("30 none at all " + i, x.shortest(0, i), -1);
        }
    }

    /** The first good NODE can be one of the last of many. */
    private static void shortestAmongManyNodes() {
        CallSteps x = Check.made(Full.NAMES + "rule r d to p;rule s b to q;rule s e to p;rule q e to t;rule p e to p;rule r e to p;rule q e to t;"
            + "rule s e to q;rule r e to r;rule p e to s;rule q b to t;rule p b to s;rule q f to r;rule r b to r;goal t b b e;goal t e e f;");
        // r d p b s b q b t, then b b e.
        isShortest(x, 2, 3, 1, 1, 1, 1, 1, 4);
        isShortest(x, 0, 1, 1, 1, 1, 1, 4);
        isShortest(x, 4, 1, 1, 4);
        due("26 many", x.machine(2) > 90 ? 1 : 0, 1);
        int k = 0;
        for (int i = 0; i < 7; i++) {
            due("28 not yet " + i, x.good(2, k), 0);
            k = x.next(2, k, x.shortest(2, i));
        }
        due("28 there", x.good(2, k), 1);
        due("27 behind many", k > 64 ? 1 : 0, 1);
        for (int j = 0; j < k; j++) {
            due("28 none ahead " + j, x.good(2, j), 0);
        }
    }

    private static void firstOfLikeOnes() {
        CallSteps x = Check.made(Full.NAMES + "goal p f a a;goal p e f f;goal p e f e;goal p f f;");
        isShortest(x, 0, 5, 5);
        CallSteps y = Check.made(Full.NAMES + "goal p f a a;goal p e f f;goal p e f e;");
        isShortest(y, 0, 4, 5, 4);
        CallSteps z = Check.made(Full.NAMES + "rule p a to q;rule p b to q;rule q a to p b;goal q b more;goal p b a;");
        // By a, by b: the top is told first.
        isShortest(z, 0, 0, 1);
        CallSteps top = Check.made(Full.NAMES + "goal p b a;goal p a b;");
        isShortest(top, 0, 0, 1);
        // The shorter one, though its SIGNS have greater numbers.
        CallSteps w = Check.made(Full.NAMES + "goal p a a;goal p f;");
        isShortest(w, 0, 5);
        CallSteps none = Check.made(Full.NAMES + "goal p a;goal p;");
        isShortest(none, 0);
    }

    // ---- promise 31: NONE if there is none such.

    private static void sameOfAll() {
        CallSteps x = Check.made(Full.TEXT);
        for (int p = 0; p < 5; p++) {
            for (int q = 0; q < 5; q++) {
                boolean is = p == q || p + q == 2 && p != 1;
                due("31 same " + p + " " + q, x.same(p, q), is ? 1 : 0);
            }
        }
        // Whatever the COSTS are.
        CallSteps y = Check.made(Full.NAMES + "rule p a to p;rule t a to t cost 99;goal p;goal t;goal r a;");
        due("31 the first and the last", y.same(0, 4), 1);
        due("31 the last and the first", y.same(4, 0), 1);
        due("31 neither of these", y.same(1, 3), 1);
        due("31 one of these", y.same(1, 2), 0);
        // One STACK of three SIGNS parts them.
        CallSteps z = Check.made(Full.NAMES + "goal p f f f;goal q f f e;");
        due("31 by one sign", z.same(0, 1), 0);
    }

    // ---- what there is none of.

    private static void nothingIsGood() {
        CallSteps x = Check.made(Full.NAMES + "rule p a to p a a;");
        for (int p = 0; p < 5; p++) {
            due("26 one node", x.machine(p), 1);
            due("28 not good", x.good(p, 0), 0);
            due("28 no second", x.good(p, 1), -1);
            for (int g = 0; g < 6; g++) {
                due("27 itself", x.next(p, 0, g), 0);
            }
            for (int n = 0; n <= 12; n += 6) {
                due("29 none of " + n, x.stacks(p, n), 0);
            }
            for (int i = -2; i <= 1; i++) {
                due("30 none " + i, x.shortest(p, i), -1);
            }
            due("31 like the first", x.same(0, p), 1);
        }
    }

    private static void withoutStatesOrSigns() {
        CallSteps signs = Check.made("sign a;sign b;");
        due("26 without states", signs.machine(0), -1);
        due("27 without states", signs.next(0, 0, 0), -1);
        due("28 without states", signs.good(0, 0), -1);
        due("29 without states", signs.stacks(0, 0), -1);
        due("30 without states", signs.shortest(0, -1), -1);
        due("31 without states", signs.same(0, 0), -1);
        CallSteps states = Check.made("state p;state q;goal q more;");
        due("26 without signs", states.machine(0), 1);
        due("26 without signs, good", states.machine(1), 1);
        due("27 without signs", states.next(1, 0, 0), -1);
        due("28 without signs", states.good(0, 0), 0);
        due("28 without signs, good", states.good(1, 0), 1);
        for (int n = 0; n <= 12; n++) {
            due("29 without signs " + n, states.stacks(1, n), n == 0 ? 1 : 0);
            due("29 without signs, not good " + n, states.stacks(0, n), 0);
        }
        due("30 without signs", states.shortest(1, -1), 0);
        due("30 without signs, the first", states.shortest(1, 0), -1);
        due("30 without signs, not good", states.shortest(0, -1), -1);
        due("31 without signs", states.same(0, 1), 0);
        due("31 without signs, itself", states.same(1, 1), 1);
    }

    /** STACKS of more than forty SIGNS are told, too. */
    private static void aboveForty() {
        CallSteps x = Check.made("state p;state q;sign a;sign b;rule p a to q;rule q a to p;goal p;");
        int k = 0;
        for (int n = 0; n <= 90; n++) {
            due("28 " + n, x.good(0, k), n % 2 == 0 ? 1 : 0);
            k = x.next(0, k, 0);
            due("27 behind " + n, k, n % 2 == 0 ? 1 : 0);
        }
        due("27 off", x.next(0, k, 1), 2);
        due("26 three", x.machine(0), 3);
    }

    /** A GOAL of so many SIGNS, with more or not: a NODE for each, one ahead of them, one for what is off. */
    private static void nodesOfAGoal() {
        for (int n = 0; n <= 3; n++) {
            CallSteps x = Check.made("state p;state q;sign a;sign b;goal p" + " a".repeat(n) + ";goal q" + " b".repeat(n) + " more;");
            due("26 of " + n, x.machine(0), n + 2);
            due("26 of " + n + " with more", x.machine(1), n == 0 ? 1 : n + 2);
            due("30 of " + n, x.shortest(0, -1), n);
            due("30 of " + n + " with more", x.shortest(1, -1), n);
            for (int length = 0; length <= 12; length++) {
                due("29 of " + n + " " + length, x.stacks(0, length), length == n ? 1 : 0);
                due("29 of " + n + " with more " + length, x.stacks(1, length), length < n ? 0 : power(2, length - n));
            }
        }
    }

    private static void outCounts() {
        CallSteps x = Check.made(Full.TEXT);
        due("26 in", x.machine(4), 5);
        due("31 in", x.same(0, 2), 1);
        x.out(11, true);
        // Without a to f f: those of d and f that end in fff.
        due("26 out", x.machine(4), 5);
        due("29 out", x.stacks(4, 2), 0);
        due("29 out, twelve", x.stacks(4, 12), 512);
        isShortest(x, 4, 5, 5, 5);
        x.out(0, true);
        due("31 out", x.same(0, 2), 0);
        due("26 one node more", x.machine(0), 2);
        x.undo();
        x.undo();
        due("29 in again", x.stacks(4, 2), 1);
        due("31 in again", x.same(0, 2), 1);
        for (int p = 0; p < 5; p++) {
            due("26 as ahead " + p, x.machine(p), NEXT[p].length);
        }
    }
}
