import java.math.BigInteger;

/** The bounds, the empty and the full cases, and what stands behind a refused call: Terms 2 and 3, promises 10 to 14 and 32. */
public final class EdgesOfNowTest {
    private static final Check CHECK = new Check("EdgesOfNowTest");
    private static final int LEAST = Integer.MIN_VALUE;
    private static final int MOST = Integer.MAX_VALUE;
    private static final String TOLD = "state p;state q;sign a;sign b;";

    public static void main(String[] args) {
        nowOfEveryHeight();
        atAGoal();
        canUpToForty();
        canByEveryRule();
        stepUpToForty();
        stepByEveryRule();
        refusedSteps();
        runsOfEveryLength();
        runsThatEnd();
        refusedRuns();
        seedsThatWrap();
        runsChooseAmongThoseThatCan();
        actsOfEveryNumber();
        actsGoRound();
        actsOfEachSort();
        undoBringsAllBack();
        noActs();
        outOfEveryRule();
        refusedOut();
        upToTheLastCall();
        CHECK.close();
    }

    private static void due(String what, long got, long want) {
        CHECK.due(what, got, want);
    }

    // ---- promise 10: -2 without NOW, there is none such, or for another what.

    private static void nowOfEveryHeight() {
        for (int n = 0; n <= 40; n++) {
            // The bottom is another SIGN than the rest.
            CallSteps x = Check.made(TOLD, n == 0 ? "q" : Full.high("q", n - 1) + " b");
            due("10 state", x.now(0), 1);
            due("10 signs", x.now(1), n);
            due("10 goal", x.now(2), 0);
            for (int what = -1; what <= 52; what++) {
                if (what < 0 || what > 2) {
                    boolean is = what >= 10 && what < 10 + n;
                    due("10 what " + what + " of " + n, x.now(what), !is ? -2 : what == 9 + n ? 1 : 0);
                }
            }
            due("10 least", x.now(LEAST), -2);
            due("10 most", x.now(MOST), -2);
        }
        CallSteps none = Check.made(TOLD);
        for (int what = -1; what <= 12; what++) {
            due("10 without, what " + what, none.now(what), -2);
        }
        CallSteps fewer = Check.made(TOLD, Full.high("p", 40));
        Check.at(fewer, "p b");
        due("10 one sign", fewer.now(10), 1);
        due("10 no second", fewer.now(11), -2);
        due("10 no fortieth", fewer.now(49), -2);
    }

    private static void isAt(String goals, String place, int is) {
        due("10 " + place + " at " + goals, Check.made(TOLD + goals, place).now(2), is);
        due("15 " + place + " at " + goals, Check.made(TOLD + goals, place).cost(), is == 1 ? 0 : -1);
        due("16 " + place + " at " + goals, Check.made(TOLD + goals, place).way(-1), is == 1 ? 0 : -1);
    }

    /** Its STACK is the GOAL's SIGNS, with more: begins with these. */
    private static void atAGoal() {
        isAt("", "p", 0);
        isAt("goal p;", "p", 1);
        isAt("goal p;", "p a", 0);
        isAt("goal p;", "q", 0);
        isAt("goal p more;", "p", 1);
        isAt("goal p more;", "p b", 1);
        isAt("goal p more;", Full.high("p", 40), 1);
        isAt("goal p more;", "q", 0);
        isAt("goal p a;", "p", 0);
        isAt("goal p a;", "p a", 1);
        isAt("goal p a;", "p b", 0);
        isAt("goal p a;", "p a a", 0);
        isAt("goal p a more;", "p", 0);
        isAt("goal p a more;", "p a", 1);
        isAt("goal p a more;", "p a b", 1);
        isAt("goal p a more;", "p b a", 0);
        isAt("goal p a b;", "p a b", 1);
        isAt("goal p a b;", "p a a", 0);
        isAt("goal p a b more;", "p a", 0);
        isAt("goal p a b more;", "p a b b", 1);
        isAt("goal p a a b;", "p a a", 0);
        isAt("goal p a a b;", "p a a b", 1);
        isAt("goal p a a b;", "p a a a", 0);
        isAt("goal p a a b;", "p a a b a", 0);
        isAt("goal p a a b;", "q a a b", 0);
        isAt("goal p a a b more;", "p a a", 0);
        isAt("goal p a a b more;", "p a a b", 1);
        isAt("goal p a a b more;", "p a a b a", 1);
        isAt("goal p a a b more;", "p a b a", 0);
        isAt("goal p a a a more;", Full.high("p", 40), 1);
        isAt("goal p a a a more;", Full.high("q", 40), 0);
        // The last of four GOALS counts as the first one does.
        isAt("goal q;goal q a;goal q b;goal p b b a;", "p b b a", 1);
        isAt("goal q a;goal p;goal p;goal p;", "q a", 1);
        isAt("goal q a;goal p;goal p;goal p;", "q", 0);
    }

    // ---- promise 11: such as would make a STACK of more than 40 not; 0 without NOW.

    private static void canUpToForty() {
        String rules = TOLD + "rule p a to p;rule p a to p b;rule p a to p a a;rule p b to p a a;rule q a to q;";
        due("11 without now", Check.made(rules).can(), 0);
        for (int n = 0; n <= 40; n++) {
            CallSteps x = Check.made(rules, Full.high("p", n));
            due("11 of " + n, x.can(), n == 0 ? 0 : n < 40 ? 7 : 3);
            due("11 another state, of " + n, Check.made(rules, Full.high("q", n)).can(), n == 0 ? 0 : 16);
        }
    }

    private static void canByEveryRule() {
        CallSteps x = Check.made(TOLD + "rule p a to p;".repeat(14), "p a");
        int bits = 16383;
        due("11 all", x.can(), bits);
        for (int r = 13; r >= 0; r--) {
            x.out(r, true);
            bits &= ~(1 << r);
            due("11 without " + r, x.can(), bits);
        }
        x.out(13, false);
        due("11 the last one again", x.can(), 8192);
        due("11 no rules", Check.made(TOLD, "p a").can(), 0);
    }

    // ---- promise 12: NONE, doing nothing, if it can't be done.

    private static void stepUpToForty() {
        String rules = TOLD + "rule p a to p;rule p a to p b;rule p a to q b a;rule p b to p;";
        CallSteps x = Check.made(rules, Full.high("p", 39));
        due("12 up to forty", x.step(2), 40);
        due("12 its state", x.now(0), 1);
        due("12 its top", x.now(10), 1);
        due("12 second", x.now(11), 0);
        due("12 its bottom", x.now(49), 0);
        Check.at(x, Full.high("p", 40));
        String before = Check.standing(x);
        due("12 not forty-one", x.step(2), -1);
        CHECK.stays("12 not forty-one", x, before);
        due("12 forty stay", x.step(1), 40);
        due("12 another top", x.now(10), 1);
        due("12 one fewer", x.step(3), 39);
        due("12 and one fewer", x.step(0), 38);
        CallSteps y = Check.made(rules, "p a");
        due("12 the last sign", y.step(0), 0);
        due("12 no sign is left", y.now(10), -2);
        due("12 its state is left", y.now(0), 0);
        for (int r = 0; r < 4; r++) {
            due("12 nothing to step by " + r, y.step(r), -1);
        }
        due("11 nothing can", y.can(), 0);
    }

    private static void stepByEveryRule() {
        for (int r = 0; r < 14; r++) {
            StringBuilder rules = new StringBuilder(TOLD);
            for (int i = 0; i < 14; i++) {
                rules.append(i == r ? "rule p a to q b b;" : "rule p b to q;");
            }
            CallSteps x = Check.made(rules.toString(), "p a");
            for (int other = -1; other <= 14; other++) {
                if (other != r) {
                    due("12 not by " + other, x.step(other), -1);
                }
            }
            due("11 only " + r, x.can(), 1 << r);
            due("12 by " + r, x.step(r), 2);
            due("12 state by " + r, x.now(0), 1);
        }
    }

    private static void refusedSteps() {
        // Is OUT, another STATE, none such.
        for (int r : new int[] {1, 2, 3, 14, 31, 32, 33, -1, -32, LEAST, MOST}) {
            CallSteps x = Check.made(TOLD + "rule p a to p b;rule p a to q a;rule q a to p;goal q;", "p a b");
            x.out(1, true);
            Check.at(x, "x");
            Check.tell(x, "p");
            String before = Check.standing(x);
            due("12 step " + r, x.step(r), -1);
            CHECK.stays("12 step " + r, x, before);
            due("6 tape stays", x.about(6), 1);
            due("5 fault stays", x.fault(0), 3);
        }
        CallSteps none = Check.made(TOLD + "rule p a to p;goal p;");
        due("12 without now", none.step(0), -1);
        due("6 no act", none.about(5), 0);
    }

    // ---- promise 13: n STEPS (1 .. 100); how many were done (one ACT, also of none).

    private static void runsOfEveryLength() {
        for (int n = 1; n <= 100; n++) {
            CallSteps x = Check.made(TOLD + "rule p a to q a;rule q a to p a;", "p a");
            due("13 of " + n, x.run(n, n), n);
            due("13 its state", x.now(0), n % 2);
            due("13 one act", x.about(5), 2);
            CHECK.due("14 undone", x.undo(), true);
            due("14 at once", x.now(0), 0);
            due("14 one act fewer", x.about(5), 1);
        }
    }

    private static void runsThatEnd() {
        String rules = TOLD + "rule p a to p;rule p b to p b b;";
        for (int n = 0; n <= 40; n++) {
            CallSteps x = Check.made(rules, Full.high("p", n));
            due("13 to the end of " + n, x.run(7, 100), n);
            due("13 nothing is left of " + n, x.now(1), 0);
            due("13 one act, of " + n, x.about(5), 2);
            CallSteps y = Check.made(rules, Full.high("p", n));
            if (n > 0) {
                due("13 just as many, " + n, y.run(7, n), n);
                due("13 then none", y.run(7, 1), 0);
                due("13 an act of none", y.about(5), 3);
            }
        }
        CallSteps up = Check.made(rules, "p b" + " a".repeat(30));
        due("13 up to forty", up.run(7, 100), 9);
        due("13 there", up.now(1), 40);
        due("13 none above", up.run(7, 100), 0);
        due("13 an act of none", up.about(5), 3);
    }

    private static void refusedRuns() {
        CallSteps x = Check.made(TOLD + "rule p a to p;rule p b to p;goal q;", "p a b a");
        String before = Check.standing(x);
        for (int n : new int[] {0, -1, -100, 101, 102, 1000, LEAST, MOST}) {
            due("13 run of " + n, x.run(5, n), -1);
            CHECK.stays("13 run of " + n, x, before);
        }
        CallSteps none = Check.made(TOLD + "rule p a to p;");
        for (int n : new int[] {0, 1, 100, 101}) {
            due("13 without now, of " + n, none.run(5, n), -1);
        }
        due("6 no act", none.about(5), 0);
    }

    /** The seed wraps as an int; what is taken of it is its upper half, 0 .. 65535. */
    private static void seedsThatWrap() {
        String rules = "state p;sign a;sign b;sign c;sign d;rule p d to p d a;rule p d to p d b;rule p d to p d c;";
        int[] seeds = {0, 1, -1, 2, 12345, -12345, MOST, LEAST, MOST - 1, LEAST + 1, 1 << 16, -1 << 16, 1103515245};
        BigInteger wrap = BigInteger.ONE.shiftLeft(32);
        for (int seed : seeds) {
            CallSteps x = Check.made(rules, "p d");
            due("13 by " + seed, x.run(seed, 39), 39);
            BigInteger value = BigInteger.valueOf(seed);
            for (int i = 1; i <= 39; i++) {
                value = value.multiply(BigInteger.valueOf(1103515245)).add(BigInteger.valueOf(12345)).mod(wrap);
                int rule = value.shiftRight(16).mod(BigInteger.valueOf(3)).intValue();
                due("13 step " + i + " by " + seed, x.now(10 + 40 - i), rule);
            }
        }
        // 0 becomes 12345, whose upper half is 0; -1 becomes 3191464396 (above 0), whose upper half is 48697.
        CallSteps first = Check.made(rules, "p d");
        first.run(0, 1);
        due("13 by 0", first.now(11), 0);
        CallSteps second = Check.made(rules + "rule p d to p d d;", "p d");
        second.run(-1, 1);
        due("13 by -1", second.now(11), 48697 % 4);
    }

    private static void runsChooseAmongThoseThatCan() {
        // At forty SIGNS only the second RULE can be done.
        CallSteps x = Check.made("state p;sign a;rule p a to p a a;rule p a to p a;", Full.high("p", 40));
        due("13 on the spot", x.run(3, 100), 100);
        due("13 still forty", x.now(1), 40);
        // One RULE of fourteen is in: whichever the seed, it is that one.
        CallSteps y = Check.made("state p;sign a;" + "rule p a to p;".repeat(13) + "rule p a to p a a;", "p a");
        for (int r = 0; r < 13; r++) {
            y.out(r, true);
        }
        due("13 by the last one", y.run(99, 10), 10);
        due("13 eleven signs", y.now(1), 11);
    }

    // ---- Terms 3: ACTS; 12 are kept, the oldest go. Promise 14: true; false if there is none.

    private static void actsOfEveryNumber() {
        for (int n = 0; n <= 40; n++) {
            CallSteps x = Check.made("state p;sign a;rule p a to p a a;");
            for (int i = 1; i <= n; i++) {
                due("14 act", i == 1 ? Check.at(x, "p a") : x.step(0), i);
                due("6 acts", x.about(5), Math.min(i, 12));
            }
            int kept = Math.min(n, 12);
            for (int i = 1; i <= kept; i++) {
                CHECK.due("14 " + i + " of " + n, x.undo(), true);
                due("14 signs behind " + i + " of " + n, x.now(1), n - i > 0 ? n - i : -2);
                due("6 acts behind " + i + " of " + n, x.about(5), kept - i);
            }
            int signs = x.now(1);
            CHECK.due("14 no more of " + n, x.undo(), false);
            due("14 doing nothing", x.now(1), signs);
            due("6 none", x.about(5), 0);
        }
    }

    /** The rows of ACTS go round: some are undone, others come, again and again. */
    private static void actsGoRound() {
        CallSteps x = Check.made("state p;sign a;rule p a to p a a;rule p a to p;", "p a a a");
        int[] signs = new int[200];
        int acts = 1;
        signs[0] = -2;
        int now = 3;
        int oldest = 0;
        for (int round = 0; round < 18; round++) {
            for (int i = 0; i < 7; i++) {
                signs[acts] = now;
                now += now < 12 ? 1 : -1;
                due("12 act", x.step(now > signs[acts] ? 0 : 1), now);
                acts++;
                oldest = Math.max(oldest, acts - 12);
            }
            for (int i = 0; i < round % 9; i++) {
                boolean is = acts > oldest;
                CHECK.due("14 in round " + round, x.undo(), is);
                if (is) {
                    acts--;
                    now = signs[acts];
                }
                due("14 signs", x.now(1), now);
                due("6 acts", x.about(5), acts - oldest);
            }
        }
    }

    private static void actsOfEachSort() {
        CallSteps x = Check.made("state p;sign a;rule p a to p;rule p a to p a a;");
        CHECK.due("32 out", x.out(1, true), true);
        due("9 at", Check.at(x, "p a a a"), 3);
        due("12 step", x.step(0), 2);
        due("13 run", x.run(1, 2), 2);
        due("13 run of none", x.run(1, 2), 0);
        CHECK.due("32 in", x.out(1, false), true);
        due("6 six", x.about(5), 6);
        int[] outs = {2, 2, 2, 2, 2, 0};
        int[] signs = {0, 0, 2, 3, -2, -2};
        for (int i = 0; i < 6; i++) {
            CHECK.due("14 sort " + i, x.undo(), true);
            due("14 out " + i, x.about(4), outs[i]);
            due("14 signs " + i, x.now(1), signs[i]);
        }
        CHECK.due("14 none is left", x.undo(), false);
    }

    private static void undoBringsAllBack() {
        StringBuilder mixed = new StringBuilder("q");
        for (int i = 0; i < 40; i++) {
            mixed.append(i % 3 == 0 ? " b" : " a");
        }
        CallSteps x = Check.made(TOLD + "rule p a to p;rule q b to p;", mixed.toString());
        Check.at(x, "p");
        Check.at(x, Full.high("p", 40));
        x.run(1, 40);
        x.undo();
        x.undo();
        x.undo();
        due("14 state", x.now(0), 1);
        due("14 forty", x.now(1), 40);
        for (int i = 0; i < 40; i++) {
            due("14 sign " + i, x.now(10 + i), i % 3 == 0 ? 1 : 0);
        }
        due("11 its step", x.can(), 2);
        x.step(1);
        x.undo();
        due("14 its top is back", x.now(10), 1);
        // UNDO is no ACT itself, and takes back no TAPE.
        due("6 one act", x.about(5), 1);
        Check.tell(x, "state p;");
        x.undo();
        due("6 tape stays", x.about(6), 8);
        due("10 now is none", x.now(0), -2);
    }

    private static void noActs() {
        CallSteps x = Check.made(TOLD + "rule p a to p;goal p;", "p a b");
        String before = Check.standing(x);
        x.feed(0, 0, 0, 0, 0);
        x.end(0);
        x.step(1);
        x.run(1, 0);
        x.out(0, false);
        x.out(1, true);
        Check.at(x, "p x");
        Check.system(x, "!");
        x.matters(0);
        CHECK.stays("14 nothing was an act", x, before);
        due("6 one act", x.about(5), 1);
        CHECK.due("14 at() is undone", x.undo(), true);
        before = Check.standing(x);
        CHECK.due("14 none", x.undo(), false);
        CHECK.stays("14 none", x, before);
    }

    // ---- promise 32: true; false, doing nothing, if there is none such, or it is so.

    private static void outOfEveryRule() {
        CallSteps x = Check.made(TOLD + "rule p a to p;".repeat(14) + "goal p;", "p a");
        for (int r = 0; r < 14; r++) {
            due("15 cost by others", x.cost(), 1);
            CHECK.due("32 not in again " + r, x.out(r, false), false);
            CHECK.due("32 out " + r, x.out(r, true), true);
            CHECK.due("32 not out again " + r, x.out(r, true), false);
            due("7 out " + r, x.rule(r, 7), 1);
        }
        due("6 all", x.about(4), 16383);
        due("15 none is left", x.cost(), -1);
        due("17 none is left", x.pops(0, 0, 0), -1);
        due("25 stuck here", x.stuck(), 0);
        for (int r = 13; r >= 0; r--) {
            CHECK.due("32 in " + r, x.out(r, false), true);
            due("6 bits", x.about(4), (1 << r) - 1);
            due("15 cost again", x.cost(), 1);
        }
        due("6 twelve", x.about(5), 12);
    }

    private static CallSteps withOneOut() {
        CallSteps x = Check.made(TOLD + "rule p a to p;rule p a to p b;goal p;", "p a b");
        x.out(1, true);
        return x;
    }

    private static void refusedOut() {
        for (int r : new int[] {2, 3, 14, 31, 32, 33, -1, -31, -32, LEAST, MOST}) {
            CallSteps y = withOneOut();
            String stood = Check.standing(y);
            CHECK.due("32 out " + r, y.out(r, true), false);
            CHECK.due("32 in " + r, y.out(r, false), false);
            CHECK.stays("32 none such " + r, y, stood);
        }
        CallSteps x = withOneOut();
        String before = Check.standing(x);
        CHECK.due("32 is in", x.out(0, false), false);
        CHECK.due("32 is out", x.out(1, true), false);
        CHECK.stays("32 it is so", x, before);
        CallSteps none = new CallSteps();
        CHECK.due("32 no system", none.out(0, true), false);
        CHECK.due("32 no system, in", none.out(0, false), false);
    }

    /** An object is used for 512 calls: the last one is answered as the first one is. */
    private static void upToTheLastCall() {
        String text = "state p;sign a;rule p a to p;goal p;";
        CallSteps x = new CallSteps();
        Check.system(x, text);
        Check.at(x, "p a");
        // Two calls for each text beside its feeds, then system(), at().
        int calls = (text.length() + 19) / 20 + 1 + 2 * 2 + 2;
        boolean is = false;
        while (calls < 510) {
            is = !is;
            CHECK.due("32 call " + calls, x.out(0, is), true);
            due("15 call " + calls, x.cost(), is ? -1 : 1);
            calls += 2;
        }
        while (calls < 511) {
            due("6 call " + calls, x.about(4), is ? 1 : 0);
            calls++;
        }
        due("6 the last call", x.about(5), 12);
    }
}
