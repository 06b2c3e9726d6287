/** Promises 1 to 9: a new object, the TAPE, SYSTEMS and their FAULTS, what is asked of them, PLACES told. */
public final class TextTest {
    private static final Check CHECK = new Check("TextTest");

    public static void main(String[] args) {
        newObject();
        feed();
        end();
        system();
        systemKeepsAllAtAFault();
        fault();
        faultsOfTokens();
        faultsOfLines();
        faultsOfNamesAndCosts();
        faultsOfTooMany();
        about();
        rule();
        goal();
        at();
        faultsOfPlaces();
        CHECK.close();
    }

    private static void due(String what, long got, long want) {
        CHECK.due(what, got, want);
    }

    private static void newObject() {
        CallSteps x = new CallSteps();
        for (int what = 0; what <= 6; what++) {
            due("1 about " + what, x.about(what), 0);
        }
        due("1 now", x.now(0), -2);
        due("1 can", x.can(), 0);
        due("1 cost", x.cost(), -1);
        due("1 NONE", CallSteps.NONE, -1);
        CHECK.refused("1 pops", () -> x.pops(0, 0, 0));
        CHECK.refused("1 rises", () -> x.rises(0, 0));
        CHECK.refused("1 lasts", () -> x.lasts(0, 0));
        CHECK.due("1 out", x.out(0, true), false);
        CHECK.due("1 undo", x.undo(), false);
    }

    private static void feed() {
        CallSteps x = new CallSteps();
        for (int i = 1; i <= 40; i++) {
            due("2 feed", x.feed(0x20202020, 0x20202020, 0x20202020, 0x20202020, 0x20202020), 20 * i);
        }
        due("2 a full tape", x.feed(0, 0, 0, 0, 0), -1);
        due("2 nothing comes", x.about(6), 800);
        x.end(781);
        due("2 801 bytes", x.feed(0, 0, 0, 0, 0), -1);
        x.end(780);
        due("2 800 bytes", x.feed(0, 0, 0, 0, 0), 800);
        due("2 bytes come in their order", Check.system(new CallSteps(), "state abcdef; sign ghijkl;"), 0);
        CallSteps high = new CallSteps();
        high.feed(0xFF616161, 0x20202020, 0x20202020, 0x20202020, 0x20202020);
        high.system();
        due("2 a byte above 127", high.fault(0), 1);
        due("2 its place", high.fault(1), 0);
    }

    private static void end() {
        CallSteps x = new CallSteps();
        due("3 end of nothing", x.end(0), 0);
        due("3 more than there are", x.end(1), -1);
        x.feed(0x73746174, 0x6520703b, 0x21212121, 0x21212121, 0x21212121);
        due("3 below 0", x.end(-1), -1);
        due("3 too many", x.end(21), -1);
        due("3 nothing done", x.about(6), 20);
        due("3 all", x.end(20), 20);
        due("3 some", x.end(8), 8);
        due("3 they are there", x.about(6), 8);
        due("3 no way back", x.end(9), -1);
        due("3 the first ones", x.system(), 0);
        due("3 a state", x.about(0), 1);
        due("3 least int", x.end(Integer.MIN_VALUE), -1);
    }

    private static void system() {
        CallSteps x = new CallSteps();
        due("4 nothing told", x.system(), 0);
        String text = "state p;state q;sign a;sign b;rule p a to q b a cost 12;rule q b to p;goal q a b a more;goal p;";
        due("4 rules", Check.system(x, text), 2);
        due("4 tape empty", x.about(6), 0);
        Check.at(x, "p a");
        x.out(0, true);
        due("4 acts", x.about(5), 2);
        due("4 told again", Check.system(x, text), 2);
        due("4 none is out", x.about(4), 0);
        due("4 now is none", x.now(0), -2);
        due("4 no acts", x.about(5), 0);
        CHECK.due("4 no undo", x.undo(), false);
        due("4 without blanks", Check.system(x, "statep;signa;"), -1);
        due("4 blanks between", Check.system(x, " \n state \n p \n;\nsign\na;rule p a to p cost\n5;"), 1);
        due("4 its cost", x.rule(0, 6), 5);
        due("4 no blank ahead of a number", Check.system(x, "state p;sign a;rule p a to p cost7;"), 1);
        due("4 its cost", x.rule(0, 6), 7);
        due("4 three digits", Check.system(x, "state p;sign a;rule p a to p cost 009;"), 1);
        due("4 its cost", x.rule(0, 6), 9);
        due("4 names of six letters", Check.system(x, "state states;sign costly;"), 0);
        due("4 one state, one sign", x.about(0) * 10 + x.about(1), 11);
        StringBuilder full = new StringBuilder("state a;state b;state c;state d;state e;");
        full.append("sign u;sign v;sign w;sign x;sign y;sign z;");
        for (int i = 0; i < 14; i++) {
            full.append("rule a u to b v w cost 99;");
        }
        full.append("goal a;goal b u;goal c u v w;goal d more;");
        due("4 as many as can be", Check.system(x, full.toString()), 14);
        due("4 goals", x.about(3), 4);
    }

    private static void systemKeepsAllAtAFault() {
        CallSteps x = Check.made("state p;sign a;rule p a to p;goal p;", "p a");
        x.out(0, true);
        due("4 a fault", Check.system(x, "state q;state r;sign b;rule q b to q;!"), -1);
        due("4 tape empty at a fault", x.about(6), 0);
        due("4 states stay", x.about(0), 1);
        due("4 rules stay", x.about(2), 1);
        due("4 out stays", x.about(4), 1);
        due("4 now stays", x.now(1), 1);
        due("4 acts stay", x.about(5), 2);
        due("4 names stay", Check.at(x, "q"), -1);
    }

    private static void fault() {
        CallSteps x = new CallSteps();
        due("5 ahead of any", x.fault(0), 0);
        due("5 place ahead of any", x.fault(1), -1);
        due("5 another what", x.fault(2), -1);
        due("5 below", x.fault(-1), -1);
        Check.system(x, "state p; rule");
        due("5 kind", x.fault(0), 2);
        due("5 place", x.fault(1), 13);
        Check.system(x, "state p;");
        due("5 without", x.fault(0), 0);
        due("5 place without", x.fault(1), -1);
        Check.at(x, "q");
        due("5 of at()", x.fault(0), 3);
        due("5 place of at()", x.fault(1), 0);
        Check.at(x, "p");
        due("5 at() without", x.fault(0), 0);
        due("5 at() without, place", x.fault(1), -1);
    }

    /** The text's FAULT and its place, of an object of its own. */
    private static void faulty(String text, int kind, int place) {
        CallSteps x = new CallSteps();
        due("5 " + text, Check.system(x, text), -1);
        due("5 kind of " + text, x.fault(0), kind);
        due("5 place in " + text, x.fault(1), place);
    }

    private static void faultsOfTokens() {
        faulty("state p; !", 1, 9);
        faulty("state abcdefg;", 1, 6);
        faulty("statess p;", 1, 0);
        faulty("state p\t;", 1, 7);
        faulty("state P;", 1, 6);
        faulty("state p,", 1, 7);
        faulty("state 1a;", 1, 6);
        faulty("state 1234;", 1, 6);
        faulty("state 1234a;", 1, 6);
        faulty("state p;sign a;rule p a to p cost 5a;", 1, 34);
        faulty("state p;sign a;rule p a to p cost 0005;", 1, 34);
        faulty("state p; \u00e9", 1, 9);
        faulty("state p;\u0000", 1, 8);
        // Of two faults the first place tells, of one place the least kind.
        faulty("state p q !", 2, 8);
        faulty("state p; state p !", 3, 15);
        faulty("state p;state q;state r;state s;state t;statess", 1, 40);
    }

    private static void faultsOfLines() {
        faulty("p", 2, 0);
        faulty(";", 2, 0);
        faulty("5", 2, 0);
        faulty("to", 2, 0);
        faulty("cost", 2, 0);
        faulty("more", 2, 0);
        faulty("state", 2, 5);
        faulty("state \n ", 2, 8);
        faulty("state ;", 2, 6);
        faulty("state 5;", 2, 6);
        faulty("state p", 2, 7);
        faulty("state p1;", 2, 7);
        faulty("state p q;", 2, 8);
        for (String word : new String[] {"state", "sign", "rule", "goal", "to", "cost", "more"}) {
            faulty("state " + word + ";", 2, 6);
            faulty("sign " + word + ";", 2, 5);
        }
        String told = "state p;sign a;";
        faulty(told + "rule", 2, 19);
        faulty(told + "rule 5", 2, 20);
        faulty(told + "rule p to", 2, 22);
        faulty(told + "rule p a p", 2, 24);
        faulty(told + "rule p a ;", 2, 24);
        faulty(told + "rule p a to ;", 2, 27);
        faulty(told + "rule p a to p", 2, 28);
        faulty(told + "rule p a to p a a a;", 2, 33);
        faulty(told + "rule p a to p a a p;", 2, 33);
        faulty(told + "rule p a to p a a zz;", 2, 33);
        faulty(told + "rule p a to p more;", 2, 29);
        faulty(told + "rule p a to p cost;", 2, 33);
        faulty(told + "rule p a to p cost a;", 2, 34);
        faulty(told + "rule p a to p cost 5 6;", 2, 36);
        faulty(told + "rule p a to p cost 5 a;", 2, 36);
        faulty(told + "rule p a to p 5;", 2, 29);
        faulty(told + "goal ;", 2, 20);
        faulty(told + "goal more;", 2, 20);
        faulty(told + "goal p a a a a;", 2, 28);
        faulty(told + "goal p a a a q;", 2, 28);
        faulty(told + "goal p more more;", 2, 27);
        faulty(told + "goal p more a;", 2, 27);
        faulty(told + "goal p cost 5;", 2, 22);
        faulty(told + "goal p", 2, 21);
        faulty(told + "goal p;;", 2, 22);
    }

    private static void faultsOfNamesAndCosts() {
        faulty("state p;state p;", 3, 14);
        faulty("state p;sign p;", 3, 13);
        faulty("sign a;sign a;", 3, 12);
        faulty("sign a;state a;", 3, 13);
        String told = "state p;sign a;";
        faulty(told + "rule a a to p;", 3, 20);
        faulty(told + "rule p p to p;", 3, 22);
        faulty(told + "rule p a to a;", 3, 27);
        faulty(told + "rule p a to p p;", 3, 29);
        faulty(told + "rule p a to p a p;", 3, 31);
        faulty(told + "rule q a to p;state q;", 3, 20);
        faulty(told + "goal a;", 3, 20);
        faulty(told + "goal p p;", 3, 22);
        faulty(told + "goal p a b;", 3, 24);
        faulty(told + "rule p a to p cost 0;", 4, 34);
        faulty(told + "rule p a to p cost 000;", 4, 34);
        faulty(told + "rule p a to p cost 100;", 4, 34);
        faulty(told + "rule p a to p a cost 999 !", 4, 36);
    }

    private static void faultsOfTooMany() {
        faulty("state a;state b;state c;state d;state e;state f;", 5, 40);
        faulty("state a;state b;state c;state d;state e;state", 5, 40);
        faulty("sign a;sign b;sign c;sign d;sign e;sign f;sign !", 5, 42);
        String told = "state p;sign a;";
        StringBuilder rules = new StringBuilder(told);
        for (int i = 0; i < 15; i++) {
            rules.append("rule p a to p;");
        }
        faulty(rules.toString(), 5, 15 + 14 * 14);
        faulty(told + "goal p;goal p;goal p;goal p;goal p;", 5, 43);
    }

    private static void about() {
        CallSteps x = Check.made("state p;state q;sign a;rule p a to q;rule q a to p;rule q a to q;goal p;goal q;goal q a;");
        due("6 states", x.about(0), 2);
        due("6 signs", x.about(1), 1);
        due("6 rules", x.about(2), 3);
        due("6 goals", x.about(3), 3);
        x.out(2, true);
        x.out(0, true);
        due("6 out", x.about(4), 5);
        due("6 acts", x.about(5), 2);
        Check.tell(x, "p a");
        due("6 bytes", x.about(6), 3);
        due("6 another", x.about(7), -1);
        due("6 below", x.about(-1), -1);
        x.undo();
        due("6 acts after undo", x.about(5), 1);
        due("6 out after undo", x.about(4), 4);
    }

    private static void rule() {
        CallSteps x = Check.made("state p;state q;sign a;sign b;rule q b to p b a cost 99;rule p a to q;rule p b to q a;");
        int[][] cells = {{1, 1, 0, 2, 1, 0, 99, 0}, {0, 0, 1, 0, -1, -1, 1, 0}, {0, 1, 1, 1, 0, -1, 1, 0}};
        for (int k = 0; k < 3; k++) {
            for (int what = 0; what < 8; what++) {
                due("7 rule " + k + " " + what, x.rule(k, what), cells[k][what]);
            }
        }
        due("7 what 8", x.rule(0, 8), -2);
        due("7 what below", x.rule(0, -1), -2);
        due("7 none such", x.rule(3, 0), -2);
        due("7 none below", x.rule(-1, 0), -2);
        due("7 none at 7", x.rule(3, 7), -2);
        x.out(1, true);
        due("7 out", x.rule(1, 7), 1);
        due("7 another is in", x.rule(0, 7), 0);
        due("7 far", x.rule(Integer.MAX_VALUE, Integer.MAX_VALUE), -2);
    }

    private static void goal() {
        CallSteps x = Check.made("state p;state q;sign a;sign b;goal q b a b more;goal p;goal p a;");
        due("8 state", x.goal(0, 0), 1);
        due("8 signs", x.goal(0, 1), 3);
        due("8 more", x.goal(0, 2), 1);
        due("8 first", x.goal(0, 10), 1);
        due("8 second", x.goal(0, 11), 0);
        due("8 third", x.goal(0, 12), 1);
        due("8 fourth", x.goal(0, 13), -2);
        due("8 what 3", x.goal(0, 3), -2);
        due("8 what 9", x.goal(0, 9), -2);
        due("8 what below", x.goal(0, -1), -2);
        due("8 no sign", x.goal(1, 10), -2);
        due("8 not more", x.goal(1, 2), 0);
        due("8 one sign", x.goal(2, 10), 0);
        due("8 none such", x.goal(3, 0), -2);
        due("8 none below", x.goal(-1, 0), -2);
        due("8 far", x.goal(0, Integer.MAX_VALUE), -2);
    }

    private static String signs(String first, int n) {
        StringBuilder text = new StringBuilder(first);
        for (int i = 0; i < n; i++) {
            text.append(" a");
        }
        return text.toString();
    }

    private static void at() {
        CallSteps x = Check.made("state p;state q;sign a;sign b;");
        due("9 a place", Check.at(x, "q a b b"), 3);
        due("9 state", x.now(0), 1);
        due("9 top", x.now(10), 0);
        due("9 bottom", x.now(12), 1);
        due("9 an act", x.about(5), 1);
        due("9 tape empty", x.about(6), 0);
        due("9 no signs", Check.at(x, "\n p \n"), 0);
        due("9 two acts", x.about(5), 2);
        due("9 forty", Check.at(x, signs("p", 40)), 40);
        due("9 forty-one", Check.at(x, signs("p", 41)), -1);
        due("9 all stays", x.now(1), 40);
        due("9 tape empty at a fault", x.about(6), 0);
        due("9 a fault is no act", x.about(5), 3);
        CHECK.due("9 undone", x.undo(), true);
        due("9 as it was", x.now(1), 0);
    }

    private static void faultyPlace(String text, int kind, int place) {
        CallSteps x = Check.made("state p;state q;sign a;sign b;", "q b");
        due("9 " + text, Check.at(x, text), -1);
        due("9 kind of " + text, x.fault(0), kind);
        due("9 place in " + text, x.fault(1), place);
        due("9 now stays", x.now(0), 1);
        due("9 stack stays", x.now(1), 1);
    }

    private static void faultsOfPlaces() {
        faultyPlace("", 2, 0);
        faultyPlace("  ", 2, 2);
        faultyPlace("5", 2, 0);
        faultyPlace(";", 2, 0);
        faultyPlace("!", 1, 0);
        faultyPlace("a", 3, 0);
        faultyPlace("r", 3, 0);
        faultyPlace("abcdefg", 1, 0);
        faultyPlace("p 5", 2, 2);
        faultyPlace("p ;", 2, 2);
        faultyPlace("p a;", 2, 3);
        faultyPlace("p a 5b", 1, 4);
        faultyPlace("p q", 3, 2);
        faultyPlace("p a c", 3, 4);
        for (String word : new String[] {"state", "sign", "rule", "goal", "to", "cost", "more"}) {
            faultyPlace(word, 2, 0);
            faultyPlace("p a " + word, 2, 4);
        }
        faultyPlace(signs("p", 41), 2, 82);
        faultyPlace(signs("p", 40) + " zz", 2, 82);
        faultyPlace(signs("p", 40) + " !", 1, 82);
        faultyPlace(signs("p", 40) + " ;", 2, 82);
        CallSteps empty = new CallSteps();
        due("9 without states", Check.at(empty, "p"), -1);
        due("9 kind without states", empty.fault(0), 3);
    }
}
