/** Promises 10 to 14 and 32: NOW, STEPS, RUNS, UNDO, RULES that are OUT. */
public final class NowTest {
    private static final Check CHECK = new Check("NowTest");

    public static void main(String[] args) {
        now();
        can();
        step();
        run();
        runByTheSeed();
        undo();
        out();
        CHECK.close();
    }

    private static void due(String what, long got, long want) {
        CHECK.due(what, got, want);
    }

    private static void now() {
        CallSteps x = Check.made("state p;state q;sign a;sign b;goal q a b;goal p b more;goal p more;goal q;");
        due("10 without", x.now(0), -2);
        due("10 without, goal", x.now(2), -2);
        Check.at(x, "q a b");
        due("10 state", x.now(0), 1);
        due("10 signs", x.now(1), 2);
        due("10 at a goal", x.now(2), 1);
        due("10 top", x.now(10), 0);
        due("10 below", x.now(11), 1);
        due("10 no third", x.now(12), -2);
        due("10 what 3", x.now(3), -2);
        due("10 what 9", x.now(9), -2);
        due("10 what below", x.now(-1), -2);
        due("10 far", x.now(Integer.MAX_VALUE), -2);
        due("10 near", x.now(Integer.MIN_VALUE), -2);
        Check.at(x, "q a b a");
        due("10 more than the goal", x.now(2), 0);
        Check.at(x, "q a");
        due("10 less than the goal", x.now(2), 0);
        Check.at(x, "q b a");
        due("10 other signs", x.now(2), 0);
        Check.at(x, "q");
        due("10 empty goal", x.now(2), 1);
        Check.at(x, "p");
        due("10 nothing with more", x.now(2), 1);
        Check.at(x, "p a");
        due("10 anything with more", x.now(2), 1);
        CallSteps y = Check.made("state p;sign a;sign b;goal p b a more;", "p b a a");
        due("10 begins with", y.now(2), 1);
        Check.at(y, "p b b");
        due("10 begins otherwise", y.now(2), 0);
        Check.at(y, "p b");
        due("10 too short", y.now(2), 0);
    }

    private static void can() {
        String text = "state p;state q;sign a;sign b;rule p a to q;rule p b to p;rule p a to p b b;rule q a to p;rule p a to p b;";
        CallSteps x = Check.made(text);
        due("11 without now", x.can(), 0);
        Check.at(x, "p a");
        due("11 bits", x.can(), 1 | 4 | 16);
        x.out(2, true);
        due("11 one is out", x.can(), 1 | 16);
        Check.at(x, "p");
        due("11 nothing on the stack", x.can(), 0);
        Check.at(x, "q b");
        due("11 no rule", x.can(), 0);
        CallSteps y = Check.made(text, "p" + " a".repeat(40));
        due("11 not above forty", y.can(), 1 | 16);
        Check.at(y, "p" + " a".repeat(39));
        due("11 up to forty", y.can(), 1 | 4 | 16);
    }

    private static void step() {
        CallSteps x = Check.made("state p;state q;sign a;sign b;sign c;rule p a to q b c;rule q b to p a;rule p a to q;rule q c to p;");
        due("12 without now", x.step(0), -1);
        Check.at(x, "p a a");
        due("12 another head", x.step(1), -1);
        due("12 no such rule", x.step(4), -1);
        due("12 below", x.step(-1), -1);
        due("12 far", x.step(32), -1);
        due("12 nothing done", x.about(5), 1);
        due("12 two signs", x.step(0), 3);
        due("12 state", x.now(0), 1);
        due("12 first is the top", x.now(10), 1);
        due("12 second is below", x.now(11), 2);
        due("12 the rest", x.now(12), 0);
        due("12 an act", x.about(5), 2);
        due("12 one sign", x.step(1), 3);
        due("12 top", x.now(10), 0);
        due("12 no sign", x.step(2), 2);
        x.out(3, true);
        due("12 is out", x.step(3), -1);
        x.out(3, false);
        due("12 is in", x.step(3), 1);
        CallSteps y = Check.made("state p;sign a;rule p a to p a a;", "p" + " a".repeat(39));
        due("12 fortieth", y.step(0), 40);
        due("12 not above forty", y.step(0), -1);
        due("12 stays", y.now(1), 40);
    }

    private static void run() {
        CallSteps x = Check.made("state p;sign a;sign b;rule p a to p;");
        due("13 without now", x.run(1, 1), -1);
        Check.at(x, "p a a a b a");
        due("13 no steps asked", x.run(1, 0), -1);
        due("13 below", x.run(1, -1), -1);
        due("13 above", x.run(1, 101), -1);
        due("13 nothing done", x.about(5), 1);
        due("13 some", x.run(9, 2), 2);
        due("13 one act", x.about(5), 2);
        due("13 where none can", x.run(9, 100), 1);
        due("13 there", x.now(1), 2);
        due("13 none", x.run(9, 1), 0);
        due("13 an act of none", x.about(5), 4);
        x.undo();
        due("13 undone", x.now(1), 2);
        x.undo();
        due("13 undone at once", x.now(1), 3);
        x.undo();
        due("13 two undone at once", x.now(1), 5);
        CallSteps y = Check.made("state p;sign a;rule p a to p a a;", "p a");
        due("13 up to forty", y.run(3, 100), 39);
        due("13 forty", y.now(1), 40);
    }

    /** Each RULE leaves another SIGN, so that the STACK tells which were chosen. */
    private static void runByTheSeed() {
        String text = "state p;state q;sign a;sign b;sign c;sign d;rule q a to q;rule p d to p d b;rule p d to p d a;rule p d to p d c;"
            + "rule p a to p;rule p d to p d d;";
        int[] seeds = {0, 1, -1, 77, Integer.MAX_VALUE, Integer.MIN_VALUE, 123456789};
        int[] signOfChoice = {1, 0, 2, 3};
        for (int seed : seeds) {
            CallSteps x = Check.made(text, "p d");
            due("13 by seed", x.run(seed, 30), 30);
            int value = seed;
            for (int i = 0; i < 30; i++) {
                value = value * 1103515245 + 12345;
                int choice = (value >>> 16) % 4;
                due("13 sign " + i + " by seed " + seed, x.now(10 + 30 - i), signOfChoice[choice]);
            }
        }
        CallSteps x = Check.made(text, "p d");
        x.out(1, true);
        x.run(5, 20);
        int value = 5;
        for (int i = 0; i < 20; i++) {
            value = value * 1103515245 + 12345;
            due("13 one out", x.now(10 + 20 - i), new int[] {0, 2, 3}[(value >>> 16) % 3]);
        }
    }

    private static void undo() {
        CallSteps x = Check.made("state p;state q;sign a;rule p a to q a a;rule q a to p a;");
        CHECK.due("14 nothing", x.undo(), false);
        Check.at(x, "p a");
        CHECK.due("14 at()", x.undo(), true);
        due("14 now was none", x.now(0), -2);
        CHECK.due("14 no more", x.undo(), false);
        Check.at(x, "p a");
        x.step(0);
        x.out(1, true);
        x.out(0, true);
        x.out(1, false);
        CHECK.due("14 in again", x.undo(), true);
        due("14 both out", x.about(4), 3);
        CHECK.due("14 out", x.undo(), true);
        due("14 one out", x.about(4), 2);
        CHECK.due("14 the other", x.undo(), true);
        due("14 none out", x.about(4), 0);
        due("14 stack stays", x.now(1), 2);
        CHECK.due("14 step", x.undo(), true);
        due("14 state", x.now(0), 0);
        due("14 stack", x.now(1), 1);
        due("14 acts", x.about(5), 1);
        // 12 are kept: of 15 acts, 3 can't be undone.
        for (int i = 0; i < 14; i++) {
            due("14 more", x.step(i % 2), 2 + i / 2);
        }
        due("14 twelve", x.about(5), 12);
        for (int i = 0; i < 12; i++) {
            CHECK.due("14 one of twelve", x.undo(), true);
        }
        due("14 the oldest are gone", x.now(1), 2);
        due("14 its state", x.now(0), 0);
        CHECK.due("14 not a thirteenth", x.undo(), false);
        due("14 an act behind", x.step(0), 3);
        CHECK.due("14 is undone", x.undo(), true);
        due("14 to there", x.now(1), 2);
        CallSteps y = Check.made("state p;sign a;sign b;rule p a to p;", "p a b a b b");
        y.step(0);
        Check.at(y, "p b");
        y.undo();
        y.undo();
        int[] signs = {0, 1, 0, 1, 1};
        for (int i = 0; i < 5; i++) {
            due("14 sign", y.now(10 + i), signs[i]);
        }
    }

    private static void out() {
        CallSteps x = Check.made("state p;sign a;rule p a to p;rule p a to p a a;goal p;", "p a");
        CHECK.due("32 no such rule", x.out(2, true), false);
        CHECK.due("32 below", x.out(-1, true), false);
        CHECK.due("32 far", x.out(32, true), false);
        CHECK.due("32 is in", x.out(0, false), false);
        due("32 nothing done", x.about(5), 1);
        due("32 cost", x.cost(), 1);
        CHECK.due("32 out", x.out(0, true), true);
        CHECK.due("32 is out", x.out(0, true), false);
        due("32 an act", x.about(5), 2);
        due("32 bits", x.about(4), 1);
        due("32 can't", x.can(), 2);
        due("32 no cost", x.cost(), -1);
        due("32 no pop", x.pops(0, 0, 0), -1);
        due("32 machine", x.stacks(0, 1), 0);
        CHECK.due("32 in again", x.out(0, false), true);
        due("32 three acts", x.about(5), 3);
        due("32 a cost", x.cost(), 1);
        due("32 machine again", x.stacks(0, 1), 1);
        x.undo();
        due("32 undone", x.cost(), -1);
        CallSteps y = Check.made("state p;sign a;rule p a to p;");
        CHECK.due("32 without now", y.out(0, true), true);
        due("32 now is none", y.now(0), -2);
    }
}
