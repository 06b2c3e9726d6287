/** The bounds, the empty and the full cases, and what stands behind a refused call: Terms 2, promises 15 to 25. */
public final class EdgesOfCostsTest {
    private static final Check CHECK = new Check("EdgesOfCostsTest");
    private static final int LEAST = Integer.MIN_VALUE;
    private static final int MOST = Integer.MAX_VALUE;
    private static final String TOLD = "state p;state q;sign a;sign b;";
    /** Pops that take 1, 3, 7, 15, 31, 63 STEPS, and goal p; each STEP of this COST. */
    private static final String[] DOUBLING = {"a to p", "b to p a a", "c to p b b", "d to p c c", "e to p d d", "f to p e e"};

    public static void main(String[] args) {
        withoutNow();
        aboveForty();
        aboveFortyForEver();
        costs();
        costsOfOneStep();
        wayOfNothing();
        wayUpToAHundred();
        wayByTheLeastRule();
        popsOfAll();
        popsRefused();
        popsWithoutNow();
        mattersOfAll();
        mattersRefused();
        mattersChangesNothing();
        comesOfAll();
        comesFromNothing();
        comesAtOnce();
        heightsWithoutRules();
        theBottomSign();
        risesOfAll();
        lastsOfAll();
        headsRefused();
        longestOfAll();
        longestBehindALatePop();
        stuckOfAll();
        outCounts();
        CHECK.close();
    }

    private static void due(String what, long got, long want) {
        CHECK.due(what, got, want);
    }

    private static String doubling(int cost) {
        StringBuilder text = new StringBuilder("state p;sign a;sign b;sign c;sign d;sign e;sign f;goal p;");
        for (String rule : DOUBLING) {
            text.append("rule p ").append(rule).append(" cost ").append(cost).append(';');
        }
        return text.toString();
    }

    private static void withoutNow() {
        CallSteps x = Check.made(TOLD + "rule p a to p;goal p;goal q more;");
        due("15 cost", x.cost(), -1);
        for (int i : new int[] {-2, -1, 0, 1, 100, LEAST, MOST}) {
            due("16 way " + i, x.way(i), -1);
        }
        for (int r = -1; r <= 1; r++) {
            due("18 matters " + r, x.matters(r), -2);
        }
        for (int p = -1; p <= 2; p++) {
            for (int g = -2; g <= 2; g++) {
                due("19 comes " + p + " " + g, x.comes(p, g), -1);
            }
        }
        due("20 height", x.height(), -2);
        due("23 endless", x.endless(), -1);
        due("24 longest", x.longest(), -2);
        due("25 stuck", x.stuck(), -1);
        // What is asked of the SYSTEM alone needs no NOW.
        due("17 pops", x.pops(0, 0, 0), 1);
        due("21 rises", x.rises(0, 0), 1);
        due("22 lasts", x.lasts(0, 0), 0);
    }

    // ---- Terms 2: all that is asked goes on without a bound, where NOW has one.

    private static void aboveForty() {
        CallSteps x = Check.made(TOLD + "rule p a to p b b;rule p b to q cost 4;goal q b more;", Full.high("p", 40));
        due("11 can't", x.can(), 0);
        due("12 can't", x.step(0), -1);
        due("13 can't", x.run(1, 5), 0);
        due("15 cost", x.cost(), 5);
        due("16 way", x.way(-1), 2);
        due("16 first", x.way(0), 0);
        due("16 second", x.way(1), 1);
        due("18 matters", x.matters(0), -1);
        due("19 comes up at once", x.comes(0, 0), 0);
        due("19 comes up above", x.comes(0, 1), 1);
        due("19 comes up there, too", x.comes(1, 1), 5);
        due("19 never", x.comes(1, 0), -1);
        due("20 height", x.height(), 41);
        due("23 endless", x.endless(), 0);
        due("24 longest", x.longest(), 2);
        due("25 stuck", x.stuck(), 5);
        CallSteps chain = Check.made(doubling(1), "p f" + " a".repeat(39));
        due("20 five above", chain.height(), 45);
        due("15 through them", chain.cost(), 63 + 39);
        due("24 through them", chain.longest(), 63 + 39);
        // A SIGN can't be popped but by one SIGN more: from forty SIGNS on, not one STEP can be done, but a hundred are a WAY.
        CallSteps up = Check.made(TOLD + "sign c;rule p a to p b c;rule p b to p;rule p c to p;goal p a;", Full.high("p", 40));
        due("11 none", up.can(), 0);
        due("15 by all", up.cost(), 39 * 3);
        due("16 too long", up.way(-1), -2);
        Check.at(up, Full.high("p", 34));
        due("16 ninety-nine", up.way(-1), 99);
        due("16 the first", up.way(0), 0);
        due("16 the last", up.way(98), 2);
    }

    private static void aboveFortyForEver() {
        CallSteps x = Check.made(TOLD + "rule p a to p a a;goal q;", Full.high("p", 40));
        due("11 can't", x.can(), 0);
        due("15 never", x.cost(), -1);
        due("20 no bound", x.height(), -1);
        due("23 endless", x.endless(), 1);
        due("24 no bound", x.longest(), -1);
        due("25 never", x.stuck(), -1);
        due("21 no bound", x.rises(0, 0), -1);
        due("22 lasts", x.lasts(0, 0), 1);
        due("21 a bound", x.rises(1, 0), 1);
    }

    // ---- promise 15: COST of NOW; NONE if it has none, or without NOW. (0, if it is at one.)

    private static void costs() {
        // At a GOAL it is 0, though STEPS go on.
        CallSteps x = Check.made(TOLD + "rule p a to p a;rule p a to q cost 9;goal p a;goal q;", "p a");
        due("15 at a goal", x.cost(), 0);
        Check.at(x, "q");
        due("15 at another", x.cost(), 0);
        Check.at(x, "p");
        due("15 nothing on it", x.cost(), -1);
        Check.at(x, "p a a");
        due("15 to the second", x.cost(), -1);
        CallSteps none = Check.made(TOLD + "rule p a to p;", "p a");
        due("15 no goals", none.cost(), -1);
        due("16 no goals", none.way(-1), -1);
        CallSteps last = Check.made(Full.TEXT, "t f f f f");
        due("15 by the last of all", last.cost(), 99);
        Check.at(last, "t f f f");
        due("15 at the last goal", last.cost(), 0);
        Check.at(last, "t f f");
        due("15 too few", last.cost(), -1);
        Check.at(last, "t a f");
        due("15 made of another", last.cost(), 1);
        Check.at(last, "p" + " f".repeat(40));
        due("15 forty of the dearest", last.cost(), 63 * 40);
        CallSteps dear = Check.made(doubling(99), "p" + " f".repeat(40));
        due("15 forty of the dearest, at 99", dear.cost(), 99 * 63 * 40);
    }

    private static void costsOfOneStep() {
        for (int cost : new int[] {1, 2, 98, 99}) {
            CallSteps x = Check.made(TOLD + "rule p a to q cost " + cost + ";goal q;goal q b;", "p a");
            due("15 one step of " + cost, x.cost(), cost);
            due("16 one step of " + cost, x.way(-1), 1);
            due("17 one step of " + cost, x.pops(0, 0, 1), cost);
            due("19 one step of " + cost, x.comes(1, -1), cost);
            Check.at(x, "p a b");
            due("19 to a head by " + cost, x.comes(1, 1), cost);
            due("25 stuck by " + cost, x.stuck(), cost);
            due("24 steps count one each", x.longest(), 1);
        }
    }

    // ---- promise 16: i NONE: how many; the i-th; -2, whatever i, if it has more than 100 STEPS.

    private static void wayOfNothing() {
        CallSteps x = Check.made(TOLD + "rule p a to p a;goal p a more;", "p a");
        due("16 none", x.way(-1), 0);
        for (int i : new int[] {-2, 0, 1, 100, LEAST, MOST}) {
            due("16 none such " + i, x.way(i), -1);
        }
        Check.at(x, "q a");
        for (int i : new int[] {-2, -1, 0, 1, 100, LEAST, MOST}) {
            due("16 no cost " + i, x.way(i), -1);
        }
    }

    private static void wayUpToAHundred() {
        for (int cost : new int[] {1, 98, 99}) {
            CallSteps x = Check.made(doubling(cost));
            Check.at(x, "p f e b a a");
            due("15 ninety-nine at " + cost, x.cost(), 99 * cost);
            due("16 ninety-nine at " + cost, x.way(-1), 99);
            Check.at(x, "p f e b b");
            due("15 a hundred at " + cost, x.cost(), 100 * cost);
            due("16 a hundred at " + cost, x.way(-1), 100);
            due("16 the first at " + cost, x.way(0), 5);
            due("16 the last but one at " + cost, x.way(98), 0);
            due("16 the last at " + cost, x.way(99), 0);
            due("16 third from the end at " + cost, x.way(97), 1);
            for (int i : new int[] {-2, 100, 101, LEAST, MOST}) {
                due("16 none such " + i + " at " + cost, x.way(i), -1);
            }
            Check.at(x, "p f e b b a");
            due("15 a hundred and one at " + cost, x.cost(), 101 * cost);
            for (int i : new int[] {-1, 0, 1, 99, 100, 101, -2, LEAST, MOST}) {
                due("16 too long, whatever i " + i + " at " + cost, x.way(i), -2);
            }
            Check.at(x, "p a");
            due("16 one again at " + cost, x.way(-1), 1);
            due("16 none behind it at " + cost, x.way(1), -1);
        }
    }

    private static void wayByTheLeastRule() {
        StringBuilder text = new StringBuilder(TOLD);
        for (int r = 0; r < 14; r++) {
            text.append("rule p a to q cost 3;");
        }
        CallSteps x = Check.made(text + "goal q;", "p a");
        for (int r = 0; r < 14; r++) {
            due("16 the least that is in", x.way(0), r);
            due("16 one step", x.way(-1), 1);
            x.out(r, true);
        }
        due("16 none is in", x.way(0), -1);
        // Dearer at first and cheaper then, or the other way round: all is one, if the sum is the least.
        CallSteps y = Check.made(TOLD + "sign c;rule p b to q cost 2;rule p c to q cost 3;rule p a to p c cost 2;rule p a to p b cost 3;goal q;", "p a");
        due("16 the lesser number", y.way(0), 2);
        due("16 what follows it", y.way(1), 1);
        y.out(2, true);
        due("16 the other", y.way(0), 3);
        due("16 what follows that", y.way(1), 0);
        // A RULE that is no STEP to less COST is none of WAY, however small its number.
        CallSteps z = Check.made(TOLD + "rule p a to p a;rule p a to p b;rule p b to p a;rule p a to q;goal q;", "p a");
        due("16 straight on", z.way(-1), 1);
        due("16 by the last", z.way(0), 3);
        // It ends at the first GOAL that it comes to.
        CallSteps w = Check.made(TOLD + "rule p a to q;rule q a to p;goal q more;goal p;", "p a a");
        due("16 up to a goal", w.way(-1), 1);
        due("16 by the first", w.way(0), 0);
    }

    // ---- promise 17: POP; NONE if it can't come to that. NoSuchElementException: there is no such STATE, SIGN.

    private static void popsOfAll() {
        CallSteps x = Check.made(Full.TEXT);
        int[][] pops = {{0, 0, 0, 1}, {0, 1, 0, 3}, {0, 2, 0, 7}, {0, 3, 0, 15}, {0, 4, 0, 31}, {0, 5, 0, 63}, {1, 0, 4, 102}, {2, 1, 4, 3},
            {3, 2, 4, 2}, {4, 3, 4, 1}, {4, 0, 4, 199}, {4, 5, 4, 99}};
        for (int p = 0; p < 5; p++) {
            for (int g = 0; g < 6; g++) {
                for (int q = 0; q < 5; q++) {
                    long want = -1;
                    for (int[] pop : pops) {
                        want = pop[0] == p && pop[1] == g && pop[2] == q ? pop[3] : want;
                    }
                    due("17 pops " + p + " " + g + " " + q, x.pops(p, g, q), want);
                }
            }
        }
        // POP of a SIGN takes a STEP at least, to its own STATE, too.
        due("17 not by none", Check.made(TOLD).pops(0, 0, 0), -1);
    }

    private static void popsRefused() {
        CallSteps x = Check.made(Full.TEXT, "p a");
        for (int odd : new int[] {5, 6, -1, -2, LEAST, MOST}) {
            CHECK.refused("17 state " + odd, () -> x.pops(odd, 0, 0));
            CHECK.refused("17 state then " + odd, () -> x.pops(0, 0, odd));
        }
        for (int odd : new int[] {6, 7, -1, -2, LEAST, MOST}) {
            CHECK.refused("17 sign " + odd, () -> x.pops(0, odd, 0));
        }
        due("17 as before", x.pops(0, 0, 0), 1);
        due("6 no act", x.about(5), 1);
        CallSteps states = Check.made("state p;");
        CHECK.refused("17 without signs", () -> states.pops(0, 0, 0));
        CallSteps signs = Check.made("sign a;");
        CHECK.refused("17 without states", () -> signs.pops(0, 0, 0));
        CallSteps none = new CallSteps();
        CHECK.refused("17 without all", () -> none.pops(0, 0, 0));
    }

    /** What is popped is the SIGN alone, whatever NOW is. */
    private static void popsWithoutNow() {
        CallSteps x = Check.made(TOLD + "rule p a to q b;rule q b to p;rule q b to q cost 5;goal p a;");
        due("17 without now", x.pops(0, 0, 0), 2);
        Check.at(x, "q");
        due("17 with another now", x.pops(0, 0, 1), 6);
        due("17 goals are no matter", x.pops(1, 1, 0), 1);
        x.out(1, true);
        due("17 out", x.pops(0, 0, 0), -1);
        x.undo();
        due("17 in again", x.pops(0, 0, 0), 2);
    }

    // ---- promise 18: 0 or above; NONE if there is no COST then; -2 without NOW, a COST of it, none such, OUT.

    private static void mattersOfAll() {
        StringBuilder text = new StringBuilder(TOLD);
        for (int r = 0; r < 14; r++) {
            text.append("rule p a to q cost ").append(r + 1).append(';');
        }
        CallSteps x = Check.made(text + "goal q;", "p a");
        due("18 the cheapest by one", x.matters(0), 1);
        for (int r = 1; r < 14; r++) {
            due("18 no matter " + r, x.matters(r), 0);
        }
        x.out(1, true);
        due("18 by two", x.matters(0), 2);
        due("18 is out", x.matters(1), -2);
        for (int r = 2; r < 13; r++) {
            x.out(r, true);
        }
        due("18 by thirteen", x.matters(0), 13);
        due("18 the last is no matter", x.matters(13), 0);
        x.out(0, true);
        due("18 the last alone", x.matters(13), -1);
        due("15 its cost", x.cost(), 14);
        x.out(13, true);
        due("18 none is in", x.matters(13), -2);
        CallSteps all = Check.made(Full.TEXT, "t f f f f");
        due("18 the last of all", all.matters(13), -1);
        Check.at(all, "t f f f");
        for (int r = 0; r < 14; r++) {
            due("18 at a goal", all.matters(r), 0);
        }
    }

    private static void mattersRefused() {
        CallSteps x = Check.made(Full.TEXT, "p a");
        for (int r : new int[] {-1, -2, 14, 15, 31, 32, 33, 64, LEAST, MOST}) {
            due("18 none such " + r, x.matters(r), -2);
        }
        due("18 there is one", x.matters(0), -1);
        Check.at(x, "t c");
        for (int r = -1; r <= 14; r++) {
            due("18 no cost " + r, x.matters(r), -2);
        }
        due("18 no rules", Check.made(TOLD + "goal p;", "p").matters(0), -2);
    }

    private static void mattersChangesNothing() {
        CallSteps x = Check.made(TOLD + "rule p a to p;rule p a to p b;rule p b to p;goal p;", "p a a");
        x.out(2, true);
        String before = Check.standing(x);
        x.matters(0);
        CHECK.stays("18 matters", x, before);
        due("18 the same again", x.matters(0), -1);
        due("18 none is out but that", x.about(4), 4);
    }

    // ---- promise 19: g NONE: with nothing on the STACK; NONE if it does not COME UP, without NOW, none such.

    private static void comesOfAll() {
        CallSteps x = Check.made(Full.TEXT, "q a");
        int[][] comes = {{1, 0, 0}, {2, 1, 99}, {3, 2, 100}, {4, 3, 101}, {4, -1, 102}};
        for (int p = -1; p <= 5; p++) {
            for (int g = -2; g <= 6; g++) {
                long want = -1;
                for (int[] row : comes) {
                    want = row[0] == p && row[1] == g ? row[2] : want;
                }
                due("19 comes " + p + " " + g, x.comes(p, g), want);
            }
        }
        for (int odd : new int[] {LEAST, MOST}) {
            due("19 state " + odd, x.comes(odd, 0), -1);
            due("19 state " + odd + ", nothing", x.comes(odd, -1), -1);
            due("19 sign " + odd, x.comes(1, odd), -1);
        }
        Check.at(x, "t a f");
        due("19 the last head", x.comes(4, 5), 1);
        due("19 nothing", x.comes(4, -1), 298);
    }

    private static void comesFromNothing() {
        CallSteps x = Check.made(Full.TEXT, "p");
        for (int p = 0; p < 5; p++) {
            for (int g = -1; g < 6; g++) {
                due("19 from nothing " + p + " " + g, x.comes(p, g), p == 0 && g == -1 ? 0 : -1);
            }
        }
        CallSteps states = Check.made("state p;state q;", "q");
        due("19 without signs", states.comes(1, -1), 0);
        due("19 without signs, another", states.comes(0, -1), -1);
        due("19 without signs, none such", states.comes(1, 0), -1);
    }

    /** By no STEPS, too; and forty SIGNS down to nothing. */
    private static void comesAtOnce() {
        CallSteps x = Check.made(Full.TEXT, "t b");
        due("19 at once", x.comes(4, 1), 0);
        due("19 not to nothing", x.comes(4, -1), -1);
        Check.at(x, Full.high("p", 40));
        due("19 through forty", x.comes(0, -1), 40);
        Check.at(x, Full.high("p", 39) + " f");
        due("19 the bottom", x.comes(0, 5), 39);
        due("19 made of the bottom", x.comes(0, 4), 40);
        due("19 below the bottom", x.comes(0, -1), 39 + 63);
    }

    // ---- promises 20, 23, 24, 25 of NOW.

    private static void heightsWithoutRules() {
        for (int n = 0; n <= 40; n++) {
            CallSteps x = Check.made(TOLD + "rule q a to q a a;", Full.high("p", n));
            due("20 its own signs " + n, x.height(), n);
            due("23 ends " + n, x.endless(), 0);
            due("24 none " + n, x.longest(), 0);
            due("25 here, with signs " + n, x.stuck(), n == 0 ? -1 : 0);
            CallSteps y = Check.made(TOLD + "rule p a to p;", Full.high("p", n));
            due("20 popped " + n, y.height(), n);
            due("23 popped " + n, y.endless(), 0);
            due("24 popped " + n, y.longest(), n);
            due("25 never with signs " + n, y.stuck(), -1);
            CallSteps z = Check.made(TOLD + "rule p a to p b b;", Full.high("p", n));
            due("20 one above " + n, z.height(), n == 0 ? 0 : n + 1);
            due("24 one " + n, z.longest(), n == 0 ? 0 : 1);
            due("25 behind one " + n, z.stuck(), n == 0 ? -1 : 1);
        }
    }

    /** What only the bottom SIGN does counts, if it is come to. */
    private static void theBottomSign() {
        String rules = "state p;state q;sign a;sign b;sign c;rule p a to p;rule q a to q;";
        String place = Full.high("p", 39) + " b";
        CallSteps up = Check.made(rules + "rule p b to p b c;", place);
        due("20 no bound", up.height(), -1);
        due("23 for ever", up.endless(), 1);
        due("24 no bound", up.longest(), -1);
        due("25 never", up.stuck(), -1);
        up.out(0, true);
        due("20 not come to", up.height(), 40);
        due("23 not come to", up.endless(), 0);
        due("24 not come to", up.longest(), 0);
        due("25 here", up.stuck(), 0);
        CallSteps other = Check.made(rules + "rule p b to p b c;", Full.high("q", 39) + " b");
        due("20 by another state", other.height(), 40);
        due("23 by another state", other.endless(), 0);
        due("24 by another state", other.longest(), 39);
        due("25 by another state", other.stuck(), 39);
        CallSteps some = Check.made(rules + "rule p b to q c c;rule q c to q;", place);
        due("20 two at the bottom", some.height(), 40);
        due("24 to the end", some.longest(), 39 + 3);
        due("25 never", some.stuck(), -1);
        CallSteps one = Check.made(rules + "rule p b to p b;", "p b");
        due("20 on the spot", one.height(), 1);
        due("23 on the spot", one.endless(), 1);
        due("24 on the spot", one.longest(), -1);
    }

    // ---- promises 21, 22: of a HEAD.

    /** Fourteen RULES, each from one HEAD to the next one and what is put below that. */
    private static String chainOfHeads(String below) {
        String heads = "papbpcpdpepfqaqbqcqdqeqfrarbrc";
        StringBuilder text = new StringBuilder(Full.NAMES);
        for (int r = 0; r < 14; r++) {
            text.append("rule ").append(heads.charAt(2 * r)).append(' ').append(heads.charAt(2 * r + 1)).append(" to ");
            text.append(heads.charAt(2 * r + 2)).append(' ').append(heads.charAt(2 * r + 3)).append(below);
        }
        return text.toString();
    }

    private static void risesOfAll() {
        CallSteps x = Check.made(Full.TEXT);
        for (int p = 0; p < 5; p++) {
            for (int g = 0; g < 6; g++) {
                int want = p == 0 ? g + 1 : p == 3 && g == 5 ? -1 : p == 4 && g == 0 ? 2 : 1;
                due("21 rises " + p + " " + g, x.rises(p, g), want);
            }
        }
        // As many as there can be: each of fourteen RULES adds one.
        CallSteps chain = Check.made(chainOfHeads(" f;"), "p a" + " f".repeat(39));
        due("21 fifteen", chain.rises(0, 0), 15);
        due("20 fifteen on the others", chain.height(), 39 + 15);
        due("24 fourteen", chain.longest(), 14);
        due("22 ends", chain.lasts(0, 0), 0);
        chain.out(13, true);
        due("21 fourteen", chain.rises(0, 0), 14);
        chain.out(0, true);
        due("21 alone", chain.rises(0, 0), 1);
        // The last of them goes back to the first one: no bound.
        CallSteps round = Check.made(chainOfHeads(" f;").replace("to r c f", "to p a f"));
        due("21 no bound", round.rises(0, 0), -1);
        due("21 no bound from within", round.rises(2, 1), -1);
        due("22 for ever", round.lasts(2, 1), 1);
        // One SIGN more each time round the fourteen HEADS is without a bound, too.
        CallSteps slow = Check.made(chainOfHeads(";").replace("to r c;", "to p a f;"), "p a" + " f".repeat(39));
        for (int i = 0; i < 14; i++) {
            due("21 slow, no bound " + i, slow.rises(i / 6, i % 6), -1);
        }
        due("20 slow, no bound", slow.height(), -1);
        slow.out(13, true);
        due("21 slow, alone", slow.rises(0, 0), 1);
        due("20 slow, none above", slow.height(), 40);
        CallSteps flat = Check.made(chainOfHeads(";").replace("to r c", "to p a"));
        due("21 round without rise", flat.rises(0, 0), 1);
        due("22 round for ever", flat.lasts(0, 0), 1);
    }

    private static void lastsOfAll() {
        CallSteps x = Check.made(Full.TEXT);
        for (int p = 0; p < 5; p++) {
            for (int g = 0; g < 6; g++) {
                boolean is = p == 3 && g == 5 || p == 4 && g == 4;
                due("22 lasts " + p + " " + g, x.lasts(p, g), is ? 1 : 0);
                Check.at(x, "pqrst".charAt(p) + " " + "abcdef".charAt(g));
                due("23 endless " + p + " " + g, x.endless(), is ? 1 : 0);
            }
        }
        x.out(10, true);
        due("22 out", x.lasts(4, 4), 0);
        x.out(12, true);
        due("22 out, too", x.lasts(3, 5), 0);
        due("21 a bound then", x.rises(3, 5), 1);
    }

    private static void headsRefused() {
        CallSteps x = Check.made(Full.TEXT, "p a");
        for (int odd : new int[] {5, 6, -1, -2, LEAST, MOST}) {
            CHECK.refused("21 state " + odd, () -> x.rises(odd, 0));
            CHECK.refused("22 state " + odd, () -> x.lasts(odd, 0));
        }
        for (int odd : new int[] {6, 7, -1, -2, LEAST, MOST}) {
            CHECK.refused("21 sign " + odd, () -> x.rises(0, odd));
            CHECK.refused("22 sign " + odd, () -> x.lasts(0, odd));
        }
        due("6 no act", x.about(5), 1);
        CallSteps states = Check.made("state p;");
        CHECK.refused("21 without signs", () -> states.rises(0, 0));
        CHECK.refused("22 without signs", () -> states.lasts(0, 0));
        CallSteps signs = Check.made("sign a;");
        CHECK.refused("21 without states", () -> signs.rises(0, 0));
        CHECK.refused("22 without states", () -> signs.lasts(0, 0));
    }

    private static void longestOfAll() {
        CallSteps x = Check.made(Full.TEXT);
        int[][] steps = {{1, 3, 7, 15, 31, 63}, {4, 0, 0, 0, 0, 0}, {0, 3, 0, 0, 0, 0}, {0, 0, 2, 0, 0, -1}, {3, 0, 0, 1, -1, 1}};
        for (int p = 0; p < 5; p++) {
            for (int g = 0; g < 6; g++) {
                Check.at(x, "pqrst".charAt(p) + " " + "abcdef".charAt(g));
                due("24 longest " + p + " " + g, x.longest(), steps[p][g]);
            }
        }
        Check.at(x, "p" + " f".repeat(40));
        due("24 forty", x.longest(), 63 * 40);
        due("20 forty", x.height(), 45);
        Check.at(x, "q a b");
        due("24 four, then none", x.longest(), 4);
        Check.at(x, "q a e");
        due("24 four, then for ever", x.longest(), -1);
        due("23 four, then for ever", x.endless(), 1);
    }

    /** The most STEPS may go through a pop that is found late, and that is itself no longest way of its HEAD. */
    private static void longestBehindALatePop() {
        CallSteps x = Check.made(Full.NAMES + "rule p a to p b c;rule p b to r f;rule r f to r e;rule r e to r d;rule r d to p;"
            + "rule s d to s c;rule s e to s d;rule s f to s e;rule p b to s f;rule p c to s f;", "p a");
        due("24 a pop of four, then four", x.longest(), 9);
        Check.at(x, "p b");
        due("24 the long one", x.longest(), 4);
        Check.at(x, "p b c b");
        due("24 the short one, to go on", x.longest(), 8);
        x.out(4, true);
        due("24 without the pop", x.longest(), 4);
    }

    private static void stuckOfAll() {
        CallSteps x = Check.made(Full.TEXT);
        // Of a HEAD alone: 0 where no RULE is for it; never with SIGNS where it is popped or goes on for ever.
        boolean[][] rules = {{true, true, true, true, true, true}, {true, false, false, false, false, false},
            {false, true, false, false, false, false}, {false, false, true, false, false, true}, {true, false, false, true, true, true}};
        for (int p = 0; p < 5; p++) {
            for (int g = 0; g < 6; g++) {
                Check.at(x, "pqrst".charAt(p) + " " + "abcdef".charAt(g));
                due("25 stuck " + p + " " + g, x.stuck(), rules[p][g] ? -1 : 0);
            }
        }
        Check.at(x, "t");
        due("25 nothing on it", x.stuck(), -1);
        Check.at(x, "t f b");
        due("25 below", x.stuck(), 99);
        Check.at(x, "q a b");
        due("25 further below", x.stuck(), 102);
        Check.at(x, "t e b");
        due("25 not come to", x.stuck(), -1);
        x.out(10, true);
        due("25 once it is out", x.stuck(), 0);
        Check.at(x, "t d" + " f".repeat(38) + " c");
        due("25 at the bottom", x.stuck(), 1 + 38 * 99);
    }

    /** OUT and UNDO count at once in all that is asked. */
    private static void outCounts() {
        CallSteps x = Check.made(TOLD + "rule p a to p a b;rule p a to q;rule q b to q;goal q;", "p a");
        due("15 in", x.cost(), 1);
        due("20 in", x.height(), -1);
        due("23 in", x.endless(), 1);
        due("24 in", x.longest(), -1);
        due("25 in", x.stuck(), -1);
        x.out(0, true);
        due("20 out", x.height(), 1);
        due("23 out", x.endless(), 0);
        due("24 out", x.longest(), 1);
        x.out(1, true);
        due("15 both out", x.cost(), -1);
        due("16 both out", x.way(-1), -1);
        due("19 both out", x.comes(1, -1), -1);
        due("25 both out", x.stuck(), 0);
        x.undo();
        due("15 one back", x.cost(), 1);
        due("20 one back", x.height(), 1);
        x.undo();
        due("20 both back", x.height(), -1);
        due("23 both back", x.endless(), 1);
        due("21 both back", x.rises(0, 0), -1);
        due("22 both back", x.lasts(0, 0), 1);
    }
}
