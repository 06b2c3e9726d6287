/** Promises 15 to 25: costs, and what comes up. */
public final class CostsTest {
    private static final Check CHECK = new Check("CostsTest");

    public static void main(String[] args) {
        cost();
        costOfGoals();
        way();
        wayTooLong();
        wayHigh();
        pops();
        matters();
        comes();
        height();
        rises();
        lasts();
        endless();
        longest();
        stuck();
        veryLong();
        CHECK.close();
    }

    private static void due(String what, long got, long want) {
        CHECK.due(what, got, want);
    }

    private static void cost() {
        CallSteps x = Check.made("state p;state q;sign a;sign b;rule p a to p b b cost 3;rule p b to q cost 5;rule q b to p cost 7;"
            + "rule p a to q cost 16;goal q;goal p;");
        due("15 without now", x.cost(), -1);
        Check.at(x, "p");
        due("15 at a goal", x.cost(), 0);
        Check.at(x, "p a");
        due("15 the least of two", x.cost(), 15);
        Check.at(x, "p a b");
        due("15 sums", x.cost(), 20);
        Check.at(x, "q a");
        due("15 none", x.cost(), -1);
        CallSteps none = Check.made("state p;sign a;rule p a to p;", "p a");
        due("15 no goals", none.cost(), -1);
    }

    private static void costOfGoals() {
        String rules = "state p;state q;sign a;sign b;sign c;rule p a to q b a;rule q b to q;rule q a to q b b cost 2;";
        due("15 two signs", Check.made(rules + "goal q a c;", "p a c").cost(), 2);
        due("15 not more", Check.made(rules + "goal q a;", "p a c").cost(), -1);
        due("15 more", Check.made(rules + "goal q a more;", "p a c").cost(), 2);
        due("15 three", Check.made(rules + "goal q b b c;", "p a c").cost(), 4);
        due("15 three with more", Check.made(rules + "goal q b b c more;", "p a c a a").cost(), 4);
        due("15 any stack", Check.made(rules + "goal q more;", "p a c").cost(), 1);
        due("15 any stack, none on it", Check.made(rules + "goal q more;", "q").cost(), 0);
        due("15 only nothing", Check.made(rules + "goal q;", "p a c").cost(), -1);
        due("15 popped to nothing", Check.made(rules + "goal q;", "p a").cost(), 6);
        due("15 the nearest", Check.made(rules + "goal q;goal q a;goal q b b;", "p a").cost(), 2);
    }

    private static void way() {
        CallSteps x = Check.made("state p;state q;sign a;sign b;rule p a to p b b cost 2;rule p a to p b cost 4;rule p b to p cost 2;"
            + "rule q a to q a;goal p;");
        due("16 without now", x.way(-1), -1);
        Check.at(x, "q a");
        due("16 no cost", x.way(-1), -1);
        due("16 no cost, no step", x.way(0), -1);
        Check.at(x, "p a");
        due("16 steps", x.way(-1), 3);
        due("16 the least rule", x.way(0), 0);
        due("16 second", x.way(1), 2);
        due("16 third", x.way(2), 2);
        due("16 no fourth", x.way(3), -1);
        due("16 below", x.way(-2), -1);
        due("16 far", x.way(Integer.MAX_VALUE), -1);
        x.out(0, true);
        due("16 another way", x.way(-1), 2);
        due("16 by another", x.way(0), 1);
        Check.at(x, "p");
        due("16 at a goal", x.way(-1), 0);
        due("16 no first", x.way(0), -1);
    }

    private static void wayTooLong() {
        StringBuilder text = new StringBuilder("state p;sign a;sign b;sign c;sign d;goal p;rule p a to p;");
        text.append("rule p b to p a a;rule p c to p b b;rule p d to p c c;");
        CallSteps x = Check.made(text.toString());
        // a takes 1 STEP, b 3, c 7, d 15.
        Check.at(x, "p d d d d d d b b b a");
        due("16 a hundred", x.way(-1), 100);
        due("16 the last", x.way(99), 0);
        due("16 none behind", x.way(100), -1);
        Check.at(x, "p d d d d d d b b b a a");
        due("16 a hundred and one", x.way(-1), -2);
        due("16 whatever i", x.way(0), -2);
        due("16 whatever i below", x.way(-5), -2);
        due("16 whatever i far", x.way(1000), -2);
        due("16 its cost", x.cost(), 101);
    }

    private static void wayHigh() {
        // From forty SIGNS on, up to forty-three of them.
        CallSteps x = Check.made("state p;state q;sign a;sign b;sign c;rule p a to p b a;rule p b to p c b;rule p c to q c c;"
            + "rule q c to q;goal q b a a more;", "p" + " a".repeat(40));
        int[] rules = {0, 1, 2, 3, 3};
        due("15 above forty", x.cost(), 5);
        due("16 above forty", x.way(-1), 5);
        for (int i = 0; i < 5; i++) {
            due("16 above forty, step " + i, x.way(i), rules[i]);
        }
        CallSteps y = Check.made("state p;sign a;sign b;rule p a to p b a;rule p b to p b b;goal p b b;", "p" + " a".repeat(40));
        due("16 never by pushes", y.way(-1), -1);
    }

    private static void pops() {
        CallSteps x = Check.made("state p;state q;sign a;sign b;rule p a to p b b cost 2;rule p b to q cost 3;rule q b to p cost 4;"
            + "rule q a to q a cost 1;rule p a to q b cost 50;");
        due("17 by two", x.pops(0, 0, 0), 9);
        due("17 by one", x.pops(0, 0, 1), -1);
        due("17 one step", x.pops(0, 1, 1), 3);
        due("17 back", x.pops(1, 1, 0), 4);
        due("17 never", x.pops(1, 0, 1), -1);
        due("17 not so", x.pops(0, 1, 0), -1);
        x.out(0, true);
        due("17 with one out", x.pops(0, 0, 0), 54);
        CHECK.refused("17 state", () -> x.pops(2, 0, 0));
        CHECK.refused("17 state below", () -> x.pops(-1, 0, 0));
        CHECK.refused("17 sign", () -> x.pops(0, 2, 0));
        CHECK.refused("17 sign none", () -> x.pops(0, -1, 0));
        CHECK.refused("17 to state", () -> x.pops(0, 0, 2));
        CHECK.refused("17 to state below", () -> x.pops(0, 0, -1));
    }

    private static void matters() {
        CallSteps x = Check.made("state p;sign a;sign b;rule p a to p cost 2;rule p a to p b cost 4;rule p b to p cost 3;"
            + "rule p b to p b;goal p;");
        due("18 without now", x.matters(0), -2);
        Check.at(x, "p a a");
        due("18 twice", x.matters(0), 10);
        due("18 not on the way", x.matters(1), 0);
        due("18 no matter", x.matters(3), 0);
        due("18 no such rule", x.matters(4), -2);
        due("18 below", x.matters(-1), -2);
        due("18 far", x.matters(32), -2);
        Check.at(x, "p b");
        due("18 no cost then", x.matters(2), -1);
        due("18 still in", x.cost(), 3);
        x.out(0, true);
        due("18 is out", x.matters(0), -2);
        Check.at(x, "p a");
        due("18 out, too", x.matters(1), -1);
        due("18 out, too, no matter", x.matters(3), 0);
        x.out(2, true);
        due("18 no cost", x.matters(1), -2);
    }

    private static void comes() {
        CallSteps x = Check.made("state p;state q;sign a;sign b;rule p a to q b a cost 2;rule q b to p cost 3;rule p b to p a b;"
            + "goal q b;");
        due("19 without now", x.comes(0, 0), -1);
        Check.at(x, "p a b");
        due("19 at once", x.comes(0, 0), 0);
        due("19 one step", x.comes(1, 1), 2);
        due("19 never", x.comes(1, 0), -1);
        due("19 never that", x.comes(0, 1), -1);
        due("19 nothing never", x.comes(0, -1), -1);
        due("19 no state", x.comes(2, 0), -1);
        due("19 state below", x.comes(-1, 0), -1);
        due("19 no sign", x.comes(0, 2), -1);
        due("19 sign below", x.comes(0, -2), -1);
        Check.at(x, "q b b b");
        due("19 below the top", x.comes(0, 1), 3);
        due("19 pushed there", x.comes(0, 0), 4);
        due("19 here", x.comes(1, 1), 0);
        Check.at(x, "q b");
        due("19 nothing", x.comes(0, -1), 3);
        due("19 nothing there", x.comes(1, -1), -1);
        Check.at(x, "q");
        due("19 nothing at once", x.comes(1, -1), 0);
        due("19 no head", x.comes(1, 1), -1);
        x.undo();
        x.out(1, true);
        due("19 out", x.comes(0, -1), -1);
        CallSteps high = Check.made("state p;state q;sign a;sign b;rule p a to p;rule p b to q;goal q;", "p" + " a".repeat(39) + " b");
        due("19 from forty", high.comes(0, 1), 39);
        due("19 nothing from forty", high.comes(1, -1), 40);
        due("25 from forty", Check.made("state p;sign a;sign b;rule p a to p;", "p" + " a".repeat(39) + " b").stuck(), 39);
        due("18 from forty", high.matters(1), -1);
        due("15 from forty", high.cost(), 40);
        for (int p = 2; p < 40; p++) {
            due("19 no state " + p, high.comes(p, 0), -1);
            due("19 nothing, no state " + p, high.comes(p, -1), -1);
            due("19 no sign " + p, high.comes(0, p), -1);
        }
    }

    private static void height() {
        CallSteps x = Check.made("state p;state q;sign a;sign b;rule p a to p b b;rule p b to q a;rule q a to q;rule q b to q b;");
        due("20 without now", x.height(), -2);
        Check.at(x, "p");
        due("20 nothing", x.height(), 0);
        Check.at(x, "p a");
        due("20 two", x.height(), 2);
        Check.at(x, "p a b b");
        due("20 on others", x.height(), 4);
        Check.at(x, "p b a a");
        due("20 not higher", x.height(), 3);
        CallSteps y = Check.made("state p;sign a;sign b;rule p a to p a b;rule p b to p;", "p b");
        due("20 a bound", y.height(), 1);
        Check.at(y, "p b b a");
        due("20 none, deep below", y.height(), -1);
        y.out(0, true);
        due("20 out", y.height(), 3);
        CallSteps z = Check.made("state p;state q;sign a;sign b;rule p b to q;rule q a to q b b;", "p b a a a");
        due("20 higher once popped", z.height(), 4);
        CallSteps above = Check.made("state p;sign a;sign b;rule p a to p b b;", "p" + " a".repeat(40));
        due("20 above forty", above.height(), 41);
    }

    private static void rises() {
        CallSteps x = Check.made("state p;state q;sign a;sign b;sign c;rule p a to p b c;rule p b to q b c;rule q b to q;rule q c to q c;"
            + "rule p c to p c c;");
        due("21 three", x.rises(0, 0), 3);
        due("21 two", x.rises(0, 1), 2);
        due("21 alone", x.rises(1, 0), 1);
        due("21 popped", x.rises(1, 1), 1);
        due("21 on for ever", x.rises(1, 2), 1);
        due("21 no bound", x.rises(0, 2), -1);
        CHECK.refused("21 state", () -> x.rises(2, 0));
        CHECK.refused("21 state below", () -> x.rises(-1, 0));
        CHECK.refused("21 sign", () -> x.rises(0, 3));
        CHECK.refused("21 sign below", () -> x.rises(0, -1));
        CallSteps back = Check.made("state p;state q;sign a;sign b;rule p a to q b a;rule q b to p;", "p a");
        due("21 a round without rise", back.rises(0, 0), 2);
        CallSteps up = Check.made("state p;state q;sign a;sign b;rule p a to q b a;rule q b to p a;rule p a to p;", "p a");
        due("21 a round with rise", up.rises(1, 1), -1);
        CallSteps through = Check.made("state p;state q;sign a;sign b;rule p a to p b a;rule p b to q;rule q a to q b b;rule q b to q b a;");
        due("21 behind a pop", through.rises(0, 0), -1);
        through.out(3, true);
        due("21 behind a pop, bound", through.rises(0, 0), 2);
    }

    /** A chain through all HEADS that there can be rules for. */
    private static CallSteps chain() {
        String[] heads = {"p a", "p b", "p c", "p d", "p e", "p f", "q a", "q b", "q c", "q d", "q e", "q f", "r a", "r b", "r c"};
        StringBuilder text = new StringBuilder("state p;state q;state r;sign a;sign b;sign c;sign d;sign e;sign f;");
        for (int i = 0; i < 14; i++) {
            text.append("rule ").append(heads[i]).append(" to ").append(heads[i + 1]).append(" a;");
        }
        return Check.made(text.toString(), "p a");
    }

    private static void lasts() {
        CallSteps x = Check.made("state p;state q;sign a;sign b;sign c;rule p a to q b c;rule q b to q;rule q c to p a;rule p b to p c;"
            + "rule p c to p c c;rule q a to q a;");
        due("22 a round by a pop", x.lasts(0, 0), 1);
        due("22 popped", x.lasts(1, 1), 0);
        due("22 into it", x.lasts(1, 2), 1);
        due("22 leads to one", x.lasts(0, 1), 1);
        due("22 up", x.lasts(0, 2), 1);
        due("22 on the spot", x.lasts(1, 0), 1);
        x.out(1, true);
        due("22 no pop", x.lasts(0, 0), 0);
        CHECK.refused("22 state", () -> x.lasts(2, 0));
        CHECK.refused("22 state below", () -> x.lasts(-1, 0));
        CHECK.refused("22 sign", () -> x.lasts(0, 3));
        CHECK.refused("22 sign below", () -> x.lasts(0, -1));
        CallSteps chain = chain();
        due("22 a chain ends", chain.lasts(0, 0), 0);
        due("21 a chain's rise", chain.rises(0, 0), 15);
        due("24 a chain's steps", chain.longest(), 14);
    }

    private static void endless() {
        CallSteps x = Check.made("state p;state q;sign a;sign b;rule p a to p;rule p b to p b;rule q b to q;");
        due("23 without now", x.endless(), -1);
        Check.at(x, "p");
        due("23 nothing", x.endless(), 0);
        Check.at(x, "p a a a");
        due("23 ends", x.endless(), 0);
        Check.at(x, "p a a b");
        due("23 below", x.endless(), 1);
        Check.at(x, "q b b b");
        due("23 another state", x.endless(), 0);
        x.undo();
        x.out(1, true);
        due("23 out", x.endless(), 0);
    }

    private static void longest() {
        CallSteps x = Check.made("state p;state q;sign a;sign b;rule p a to p b b;rule p b to p;rule p a to q;rule q b to q b;"
            + "rule p b to q;");
        due("24 without now", x.longest(), -2);
        Check.at(x, "p");
        due("24 nothing", x.longest(), 0);
        Check.at(x, "p a");
        due("24 no bound", x.longest(), -1);
        x.out(3, true);
        due("24 three", x.longest(), 3);
        Check.at(x, "p a a b");
        due("24 seven", x.longest(), 7);
        Check.at(x, "q a a");
        due("24 none", x.longest(), 0);
        x.out(1, true);
        Check.at(x, "p a a b");
        due("24 the longest ends early", x.longest(), 2);
        // Which STATE a pop ends in decides how far it goes on below.
        CallSteps y = Check.made("state p;state q;state r;sign a;sign b;sign c;rule p a to q;rule p a to p b;rule p b to p c;rule p c to r;"
            + "rule q a to q b;rule q b to q c;rule q c to q;", "p a a");
        due("24 by the short pop", y.longest(), 4);
        Check.at(y, "p a b");
        due("24 the other pop", y.longest(), 3);
    }

    private static void stuck() {
        CallSteps x = Check.made("state p;state q;sign a;sign b;rule p a to p cost 4;rule p a to q b a cost 2;rule q b to q cost 3;rule q a to q a;");
        due("25 without now", x.stuck(), -1);
        Check.at(x, "p");
        due("25 no signs", x.stuck(), -1);
        Check.at(x, "p b");
        due("25 here", x.stuck(), 0);
        Check.at(x, "p a b");
        due("25 below", x.stuck(), 4);
        Check.at(x, "p a a a b");
        due("25 deep below", x.stuck(), 12);
        Check.at(x, "p a");
        due("25 never", x.stuck(), -1);
        x.out(3, true);
        due("25 by out", x.stuck(), 5);
        x.out(2, true);
        due("25 by another out", x.stuck(), 2);
        CallSteps high = Check.made("state p;sign a;rule p a to p a a;", "p" + " a".repeat(40));
        due("25 forty are no bound", high.stuck(), -1);
    }

    /** Pops that double, so that sums grow far above a WAY's. */
    private static void veryLong() {
        StringBuilder text = new StringBuilder("state p;state q;sign a;sign b;sign c;sign d;sign e;sign f;goal q;rule p a to q cost 99;rule q a to p cost 99;");
        String[] signs = {"a", "b", "c", "d", "e", "f"};
        for (int i = 1; i < 6; i++) {
            for (String state : new String[] {"p", "q"}) {
                text.append("rule ").append(state).append(' ').append(signs[i]).append(" to ").append(state).append(' ');
                text.append(signs[i - 1]).append(' ').append(signs[i - 1]).append(" cost 99;");
            }
        }
        CallSteps x = Check.made(text.toString(), "q" + " f".repeat(40));
        due("15 long", x.cost(), 99L * 63 * 40);
        due("16 long", x.way(-1), -2);
        due("24 long", x.longest(), 63L * 40);
        due("17 long", x.pops(1, 5, 1), 99L * 63);
        due("17 long, not", x.pops(1, 5, 0), -1);
        due("20 long", x.height(), 45);
    }
}
