/** Promises 26 to 31: MACHINES. */
public final class MachinesTest {
    private static final Check CHECK = new Check("MachinesTest");

    public static void main(String[] args) {
        machine();
        numbers();
        next();
        good();
        stacks();
        shortest();
        same();
        withoutSigns();
        CHECK.close();
    }

    private static void due(String what, long got, long want) {
        CHECK.due(what, got, want);
    }

    private static void machine() {
        CallSteps x = Check.made("state p;state q;state r;sign a;sign b;rule p a to q;rule q a to p;goal p;goal r more;");
        due("26 even ones", x.machine(0), 3);
        due("26 odd ones", x.machine(1), 3);
        due("26 all", x.machine(2), 1);
        due("26 no state", x.machine(3), -1);
        due("26 below", x.machine(-1), -1);
        x.out(0, true);
        due("26 by out", x.machine(0), 2);
        x.undo();
        due("26 undone", x.machine(0), 3);
        due("26 a new system", Check.system(x, "state p;sign a;goal p a a a;"), 0);
        due("26 its machine", x.machine(0), 5);
        due("28 its first node", x.good(0, 0), 0);
        due("28 its good node", x.good(0, 3), 1);
        // What is told by two goals can be one machine with few nodes.
        CallSteps y = Check.made("state p;sign a;sign b;goal p a more;goal p b more;goal p;");
        due("26 all together", y.machine(0), 1);
        CallSteps z = Check.made("state p;sign a;sign b;goal p a b a;goal p b b a;goal p a a a;goal p b a a;");
        due("26 alike ones are one", z.machine(0), 5);
    }

    private static void numbers() {
        // The words bab and ab: node by node, sign by sign.
        CallSteps x = Check.made("state p;sign a;sign b;goal p b a b;goal p a b;");
        int[][] next = {{1, 2}, {3, 4}, {1, 3}, {3, 3}, {3, 3}};
        int[] good = {0, 0, 0, 0, 1};
        due("26 nodes", x.machine(0), 5);
        for (int k = 0; k < 5; k++) {
            due("27 by a from " + k, x.next(0, k, 0), next[k][0]);
            due("27 by b from " + k, x.next(0, k, 1), next[k][1]);
            due("28 node " + k, x.good(0, k), good[k]);
        }
    }

    private static void next() {
        CallSteps x = Check.made("state p;state q;sign a;sign b;rule p a to q;rule q b to p;goal p;");
        // p: (ab)*; q: b(ab)*.
        due("27 p by a", x.next(0, 0, 0), 1);
        due("27 p by b", x.next(0, 0, 1), 2);
        due("27 p back", x.next(0, 1, 1), 0);
        due("27 p off", x.next(0, 1, 0), 2);
        due("27 q off", x.next(1, 0, 0), 1);
        due("27 q by b", x.next(1, 0, 1), 2);
        due("27 q back", x.next(1, 2, 0), 0);
        due("27 no node", x.next(0, 3, 0), -1);
        due("27 node below", x.next(0, -1, 0), -1);
        due("27 no sign", x.next(0, 0, 2), -1);
        due("27 sign below", x.next(0, 0, -1), -1);
        due("27 no state", x.next(2, 0, 0), -1);
        due("27 state below", x.next(-1, 0, 0), -1);
    }

    private static void good() {
        CallSteps x = Check.made("state p;state q;sign a;sign b;rule p a to q;rule q b to p;goal p;");
        due("28 p", x.good(0, 0), 1);
        due("28 p, a", x.good(0, 1), 0);
        due("28 p, off", x.good(0, 2), 0);
        due("28 q", x.good(1, 0), 0);
        due("28 q, b", x.good(1, 2), 1);
        due("28 no node", x.good(0, 3), -1);
        due("28 node below", x.good(0, -1), -1);
        due("28 no state", x.good(2, 0), -1);
        due("28 state below", x.good(-1, 0), -1);
    }

    private static void stacks() {
        CallSteps x = Check.made("state p;state q;sign a;sign b;sign c;rule p a to p;rule p b to p;goal p;goal q more;");
        long two = 1;
        long three = 1;
        for (int n = 0; n <= 12; n++) {
            due("29 of two " + n, x.stacks(0, n), two);
            due("29 of three " + n, x.stacks(1, n), three);
            two *= 2;
            three *= 3;
        }
        due("29 thirteen", x.stacks(0, 13), -1);
        due("29 below", x.stacks(0, -1), -1);
        due("29 no state", x.stacks(2, 0), -1);
        due("29 state below", x.stacks(-1, 0), -1);
        CallSteps six = Check.made("state p;sign a;sign b;sign c;sign d;sign e;sign f;goal p more;");
        due("29 six to the twelfth", six.stacks(0, 12), 2176782336L);
    }

    private static void shortest() {
        CallSteps x = Check.made("state p;state q;state r;sign a;sign b;goal p b a b;goal p b b a;goal p b a a more;"
            + "rule q a to p;goal r;");
        due("30 three", x.shortest(0, -1), 3);
        due("30 first", x.shortest(0, 0), 1);
        due("30 second, the first of like ones", x.shortest(0, 1), 0);
        due("30 third, the first of like ones", x.shortest(0, 2), 0);
        due("30 no fourth", x.shortest(0, 3), -1);
        due("30 below", x.shortest(0, -2), -1);
        due("30 by a rule", x.shortest(1, -1), 4);
        due("30 by a rule, first", x.shortest(1, 0), 0);
        due("30 by a rule, last", x.shortest(1, 3), 0);
        due("30 nothing on it", x.shortest(2, -1), 0);
        due("30 no sign on it", x.shortest(2, 0), -1);
        due("30 no state", x.shortest(3, -1), -1);
        due("30 state below", x.shortest(-1, -1), -1);
        CallSteps y = Check.made("state p;state q;sign a;sign b;rule p b to q;goal q a;goal p a b a;goal p b b;");
        due("30 the shorter one", y.shortest(0, -1), 2);
        due("30 its first", y.shortest(0, 0), 1);
        due("30 its second, by the least sign", y.shortest(0, 1), 0);
        due("30 none at all", Check.made("state p;state q;sign a;goal p;").shortest(1, -1), -1);
        due("30 none at all, no sign", Check.made("state p;state q;sign a;goal p;").shortest(1, 0), -1);
    }

    private static void same() {
        CallSteps x = Check.made("state p;state q;state r;sign a;sign b;rule p a to q;rule q a to p;rule r a to p cost 7;rule p b to q b;"
            + "rule q b to p b;goal q;goal p a a more;");
        due("31 itself", x.same(0, 0), 1);
        due("31 not", x.same(0, 1), 0);
        due("31 not so either", x.same(1, 0), 0);
        due("31 no state", x.same(0, 3), -1);
        due("31 no first state", x.same(3, 0), -1);
        due("31 below", x.same(-1, 0), -1);
        due("31 second below", x.same(0, -1), -1);
        CallSteps y = Check.made("state p;state q;state r;sign a;sign b;rule p a to p;rule q a to q cost 9;rule r a to q;goal p b;goal q b;goal r b;");
        due("31 whatever cost", y.same(0, 1), 1);
        due("31 by another", y.same(1, 2), 1);
        y.out(1, true);
        due("31 out", y.same(0, 1), 0);
        due("31 neither", Check.made("state p;state q;sign a;").same(0, 1), 1);
    }

    private static void withoutSigns() {
        CallSteps x = Check.made("state p;state q;goal p;");
        due("26 without signs", x.machine(0), 1);
        due("28 without signs", x.good(0, 0), 1);
        due("28 without signs, not", x.good(1, 0), 0);
        due("27 without signs", x.next(0, 0, 0), -1);
        due("29 without signs", x.stacks(0, 0), 1);
        due("29 without signs, one", x.stacks(0, 1), 0);
        due("30 without signs", x.shortest(0, -1), 0);
        due("31 without signs", x.same(0, 1), 0);
    }
}
