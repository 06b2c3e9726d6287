/** The bounds, the empty and the full cases, and what stands behind a refused call: Terms 1, promises 1 to 9. */
public final class EdgesOfTextsTest {
    private static final Check CHECK = new Check("EdgesOfTextsTest");
    private static final int LEAST = Integer.MIN_VALUE;
    private static final int MOST = Integer.MAX_VALUE;
    private static final String TOLD = "state p;sign a;";

    public static void main(String[] args) {
        newObject();
        fullTape();
        refusedFeed();
        placesOfBytes();
        endOfTape();
        wholeTapeIsRead();
        everyByte();
        everyByteBehindADigit();
        everyByteBehindALetter();
        lengthsOfWords();
        lengthsOfNumbers();
        tokensAsLongAsCanBe();
        emptyAndFullSystems();
        oneStateTooMany();
        oneSignTooMany();
        oneRuleTooMany();
        oneGoalTooMany();
        signsOfRules();
        signsOfGoals();
        everyCost();
        toldAhead();
        firstByPlace();
        leastAtOnePlace();
        endIsAPlace();
        aSystemBeginsAnew();
        eachTextIsReadAnew();
        aFaultKeepsAll();
        faultOfTheLatest();
        aboutAll();
        rulesAll();
        goalsAll();
        everyHeightTold();
        faultsOfAPlace();
        aFaultyPlaceKeepsAll();
        CHECK.close();
    }

    private static void due(String what, long got, long want) {
        CHECK.due(what, got, want);
    }

    /** A text with this FAULT (kind 0: without one), read by an object of its own. */
    private static void reads(String text, int kind, int place) {
        CallSteps x = new CallSteps();
        int rules = Check.system(x, text);
        due("4 faulty: " + text, rules < 0 ? 1 : 0, kind == 0 ? 0 : 1);
        due("5 kind of " + text, x.fault(0), kind);
        due("5 place in " + text, x.fault(1), place);
        due("4 tape behind " + text, x.about(6), 0);
    }

    private static void faultless(String text) {
        reads(text, 0, -1);
    }

    // ---- promise 1: No STATES, no SIGNS; NOW is none.

    private static void newObject() {
        CallSteps x = new CallSteps();
        due("1 states", x.about(0), 0);
        due("1 signs", x.about(1), 0);
        due("1 now, state", x.now(0), -2);
        due("1 now, signs", x.now(1), -2);
        due("1 now, goal", x.now(2), -2);
        due("1 now, top", x.now(10), -2);
        due("1 no rule", x.rule(0, 0), -2);
        due("1 no goal", x.goal(0, 0), -2);
        due("1 step", x.step(0), -1);
        due("1 run", x.run(0, 1), -1);
        due("1 way", x.way(-1), -1);
        due("1 matters", x.matters(0), -2);
        due("1 comes", x.comes(0, 0), -1);
        due("1 comes to nothing", x.comes(0, -1), -1);
        due("1 height", x.height(), -2);
        due("1 endless", x.endless(), -1);
        due("1 longest", x.longest(), -2);
        due("1 stuck", x.stuck(), -1);
        due("1 machine", x.machine(0), -1);
        due("1 next", x.next(0, 0, 0), -1);
        due("1 good", x.good(0, 0), -1);
        due("1 stacks", x.stacks(0, 0), -1);
        due("1 shortest", x.shortest(0, -1), -1);
        due("1 same", x.same(0, 0), -1);
        due("1 nothing of it was an act", x.about(5), 0);
    }

    // ---- promise 2: Twenty bytes come behind those on the TAPE; NONE, and nothing comes, if there would be more than 800.

    private static void fullTape() {
        CallSteps x = new CallSteps();
        for (int i = 1; i <= 39; i++) {
            due("2 feed " + i, x.feed(0, 0, 0, 0, 0), 20 * i);
        }
        due("2 the last twenty", x.feed(0, 0, 0, 0, 0), 800);
        due("2 full", x.about(6), 800);
        due("2 none behind", x.feed(0, 0, 0, 0, 0), -1);
        for (int n = 799; n > 780; n--) {
            due("3 end " + n, x.end(n), n);
            due("2 not above 800, from " + n, x.feed(0, 0, 0, 0, 0), -1);
            due("2 as many as were, " + n, x.about(6), n);
        }
        due("3 end 780", x.end(780), 780);
        due("2 again up to 800", x.feed(0, 0, 0, 0, 0), 800);
    }

    private static void refusedFeed() {
        CallSteps x = new CallSteps();
        Check.tell(x, Full.padded("state p;", 800, "state q;"));
        due("2 refused", x.feed(0x21212121, 0x21212121, 0x21212121, 0x21212121, 0x21212121), -1);
        due("2 the bytes are as they were", x.system(), 0);
        due("2 the first ones and the last ones", x.about(0), 2);
        CallSteps y = new CallSteps();
        Check.tell(y, Full.padded("state p;", 795, "sign a;"));
        due("2 refused at 795", y.feed(0x21212121, 0x21212121, 0x21212121, 0x21212121, 0x21212121), -1);
        due("2 no byte of these came", y.about(6), 795);
        due("2 nor in place of others", y.system(), 0);
        due("2 the sign at the end", y.about(1), 1);
    }

    /** Of each number the highest byte comes first. */
    private static void placesOfBytes() {
        for (int i = 0; i < 40; i++) {
            int[] n = {0x20202020, 0x20202020, 0x20202020, 0x20202020, 0x20202020};
            int[] other = n.clone();
            int shift = 8 * (3 - i % 4);
            n[i % 20 / 4] = n[i % 20 / 4] & ~(255 << shift) | 0xFE << shift;
            CallSteps x = new CallSteps();
            if (i >= 20) {
                x.feed(other[0], other[1], other[2], other[3], other[4]);
            }
            due("2 many", x.feed(n[0], n[1], n[2], n[3], n[4]), i < 20 ? 20 : 40);
            due("2 not read", x.system(), -1);
            due("2 no token", x.fault(0), 1);
            due("2 byte " + i, x.fault(1), i);
        }
        CallSteps x = new CallSteps();
        x.feed(0x73746174, 0x65207071, 0x3b736967, 0x6e206162, 0x3b202020);
        due("2 state pq;sign ab;", x.system(), 0);
        x.feed(0x70712061, 0x62206162, 0x20202020, 0x20202020, 0x20202020);
        due("2 pq ab ab", x.at(), 2);
    }

    // ---- promise 3: The TAPE has its first n bytes; NONE, doing nothing, if it has not so many, or n is below 0.

    private static void endOfTape() {
        CallSteps x = new CallSteps();
        due("3 none of none", x.end(0), 0);
        due("3 one of none", x.end(1), -1);
        due("3 below, of none", x.end(-1), -1);
        Check.tell(x, "state p;state q;");
        due("3 all", x.end(16), 16);
        due("3 one too many", x.end(17), -1);
        due("3 below", x.end(-1), -1);
        due("3 least", x.end(LEAST), -1);
        due("3 most", x.end(MOST), -1);
        due("3 did nothing", x.about(6), 16);
        due("3 all but one", x.end(15), 15);
        due("3 that one is gone", x.end(16), -1);
        due("3 half", x.end(8), 8);
        Check.tell(x, "sign a;");
        due("3 others come behind these", x.about(6), 15);
        due("3 they are read", x.system(), 0);
        due("3 one state", x.about(0), 1);
        due("3 one sign", x.about(1), 1);
        Check.tell(x, "state p;");
        due("3 nothing is left", x.end(0), 0);
        due("3 nothing is read", x.system(), 0);
        due("3 no state", x.about(0), 0);
        Check.tell(x, Full.padded("state p;", 800, "!"));
        due("3 the last byte is cut", x.end(799), 799);
        due("3 it is not read", x.system(), 0);
        Check.tell(x, " ".repeat(800));
        due("3 eight hundred", x.end(800), 800);
        due("3 eight hundred and one", x.end(801), -1);
    }

    // ---- Terms 1: a text of at most 800 bytes; tokens; blanks.

    private static void wholeTapeIsRead() {
        faultless(Full.padded("state p;", 800, "state q;"));
        reads(Full.padded("state p;", 800, "!"), 1, 799);
        reads(Full.padded("state p;", 800, ";"), 2, 799);
        reads(Full.padded("state p;", 800, "state q"), 2, 800);
        reads(Full.padded("state p;", 800, "state"), 2, 800);
        reads(Full.padded("state p;", 800, "state qqqqqqq"), 1, 793);
        faultless(" ".repeat(800));
        faultless("\n".repeat(800));
        reads("a".repeat(800), 1, 0);
        reads("1".repeat(800), 1, 0);
        reads(";".repeat(800), 2, 0);
        CallSteps x = Check.made("state p;sign a;");
        due("9 eight hundred bytes", Check.at(x, Full.padded("p a", 800, "a")), 2);
        due("9 the last of them", Check.at(x, Full.padded("p a", 800, "!")), -1);
        due("9 its place", x.fault(1), 799);
    }

    private static boolean isLetter(int b) {
        return b >= 97 && b <= 122;
    }

    private static boolean isDigit(int b) {
        return b >= 48 && b <= 57;
    }

    private static boolean isBlank(int b) {
        return b == 32 || b == 10;
    }

    private static void everyByte() {
        for (int b = 0; b < 256; b++) {
            boolean isToken = isLetter(b) || isDigit(b) || b == 59;
            if (isBlank(b)) {
                faultless("" + (char) b);
            } else {
                reads("" + (char) b, isToken ? 2 : 1, 0);
            }
            CallSteps x = Check.made("state p;sign a;");
            int answer = Check.at(x, "p" + (char) b + " a");
            due("9 byte " + b, answer, isBlank(b) ? 1 : -1);
            due("9 kind of byte " + b, x.fault(0), isBlank(b) ? 0 : isLetter(b) ? 3 : isToken ? 2 : 1);
            due("9 place of byte " + b, x.fault(1), isBlank(b) ? -1 : isLetter(b) ? 0 : 1);
        }
    }

    /** No letter directly behind a digit: the digits are no number then, and the place is theirs. */
    private static void everyByteBehindADigit() {
        String line = TOLD + "rule p a to p cost 5";
        for (int b = 0; b < 256; b++) {
            String text = line + (char) b + ";";
            if (isBlank(b) || isDigit(b)) {
                faultless(text);
            } else if (isLetter(b)) {
                reads(text, 1, 34);
            } else {
                reads(text, b == 59 ? 2 : 1, b == 59 ? 36 : 35);
            }
        }
        reads(line + " a;", 2, 36);
        reads(TOLD + "rule p a to p cost 55a;", 1, 34);
        reads(TOLD + "rule p a to p cost 555z;", 1, 34);
        reads(TOLD + "rule p a to p cost 5555z;", 1, 34);
    }

    /** A digit directly behind a letter only ends the word. */
    private static void everyByteBehindALetter() {
        for (int b = 0; b < 256; b++) {
            String text = "state p" + (char) b + ";";
            if (isBlank(b) || isLetter(b)) {
                faultless(text);
            } else {
                reads(text, isDigit(b) || b == 59 ? 2 : 1, b == 59 ? 8 : 7);
            }
        }
        faultless(TOLD + "rule p a to p cost5;");
        faultless(TOLD + "rule p a to p a cost99;");
        reads(TOLD + "rule p5 a to p;", 2, 21);
    }

    private static void lengthsOfWords() {
        for (int n = 1; n <= 30; n++) {
            String name = "x".repeat(n);
            if (n <= 6) {
                faultless("state " + name + ";");
                faultless("sign " + name + ";");
                CallSteps x = Check.made("state " + name + ";sign abcdef;");
                due("9 a name of " + n, Check.at(x, name + " abcdef"), 1);
                due("9 a shorter name", Check.at(x, name + " abcde"), -1);
                due("9 is none", x.fault(0), 3);
                due("9 a longer word", Check.at(x, name + " abcdefg"), -1);
                due("9 is no token", x.fault(0), 1);
                due("9 by its first byte", x.fault(1), n + 1);
                due("9 a longer word that ends so", Check.at(x, name + " xabcdef"), -1);
                due("9 is no token, too", x.fault(0), 1);
            } else {
                reads("state " + name + ";", 1, 6);
                reads("sign " + name + ";", 1, 5);
                reads(name, 1, 0);
                reads(TOLD + "rule " + name, 1, 20);
                reads(TOLD + "goal p " + name, 1, 22);
            }
        }
        faultless("state abcdef;state abcdeg;state bbcdef;state abcde;state a;");
        faultless("state az;state za;sign zzzzzz;sign aaaaaa;");
        reads("state zzzzzz;sign zzzzzz;", 3, 18);
    }

    private static void lengthsOfNumbers() {
        String line = TOLD + "rule p a to p cost ";
        faultless(line + "7;");
        faultless(line + "07;");
        faultless(line + "007;");
        reads(line + "0007;", 1, 34);
        reads(line + "00007;", 1, 34);
        reads(line + "1000;", 1, 34);
        reads(line + "4294967297;", 1, 34);
        reads(line + "99999999999999999999;", 1, 34);
        reads("1234", 1, 0);
        reads("123", 2, 0);
    }

    private static void tokensAsLongAsCanBe() {
        reads("statep;", 2, 0);
        reads("state p;signa;", 2, 8);
        reads(TOLD + "rulep a to p;", 2, 15);
        reads(TOLD + "rule pa to p;", 3, 20);
        reads(TOLD + "rule p ato p;", 3, 22);
        reads(TOLD + "rule p a top;", 2, 24);
        reads(TOLD + "rule p a to p costs 5;", 3, 29);
        reads(TOLD + "rule p a to p cost 5 0;", 2, 36);
        reads(TOLD + "goal pmore;", 3, 20);
        faultless("\n state\np\n;\n\nsign a ; rule p\na to\np a cost\n9\n;goal\np\na more\n;\n");
        faultless("state p;sign a;rule p a to p;goal p;");
        faultless("state states;sign signs;state sta;state too;sign mores;sign cos;");
    }

    // ---- promise 4, Terms 1: how many there can be of all.

    private static void emptyAndFullSystems() {
        CallSteps x = new CallSteps();
        due("4 nothing is a system", x.system(), 0);
        due("4 without a fault", x.fault(0), 0);
        due("4 only states", Check.system(x, "state p;"), 0);
        due("4 only signs", Check.system(x, "sign a;"), 0);
        due("4 no state", x.about(0), 0);
        due("4 one sign", x.about(1), 1);
        due("4 as much as can be", Check.system(x, Full.TEXT), 14);
        int[] counts = {5, 6, 14, 4, 0, 0, 0};
        for (int what = 0; what <= 6; what++) {
            due("6 full " + what, x.about(what), counts[what]);
        }
        due("9 the last state, the last sign", Check.at(x, "t f"), 1);
        due("10 the last state", x.now(0), 4);
        due("10 the last sign", x.now(10), 5);
        due("4 nothing again", x.system(), 0);
        for (int what = 0; what <= 6; what++) {
            due("6 nothing " + what, x.about(what), 0);
        }
        due("10 now is none", x.now(0), -2);
        // Lines of one sort need not stand together.
        faultless("sign a;state p;goal p;rule p a to p;state q;goal q a;sign b;rule q b to p a b;");
    }

    private static String lines(String word, String names) {
        StringBuilder text = new StringBuilder();
        for (int i = 0; i < names.length(); i++) {
            text.append(word).append(' ').append(names.charAt(i)).append(';');
        }
        return text.toString();
    }

    private static void oneStateTooMany() {
        String five = lines("state", "pqrst");
        faultless(five);
        reads(five + "state u;", 5, 40);
        reads(five + "state p;", 5, 40);
        reads(five + "state", 5, 40);
        reads(five + "state !", 5, 40);
        reads(five + "state to;", 5, 40);
        reads(five + "\n state u;", 5, 42);
        reads(five + "state u;state v;", 5, 40);
        reads(five + "sign a;state u;", 5, 47);
        reads(five + "sign p;", 3, 45);
        faultless(five + "sign a;rule t a to t;");
        faultless(lines("state", "pqrs"));
    }

    private static void oneSignTooMany() {
        String six = lines("sign", "abcdef");
        faultless(six);
        reads(six + "sign g;", 5, 42);
        reads(six + "sign a;", 5, 42);
        reads(six + "sign", 5, 42);
        reads(six + "sign ;", 5, 42);
        reads(six + "state p;sign g;", 5, 50);
        faultless(six + "state p;rule p f to p f f;");
        faultless(lines("sign", "abcde"));
    }

    private static void oneRuleTooMany() {
        String thirteen = TOLD + "rule p a to p;".repeat(13);
        due("4 thirteen rules", Check.system(new CallSteps(), thirteen), 13);
        String fourteen = thirteen + "rule p a to p;";
        due("4 fourteen rules", Check.system(new CallSteps(), fourteen), 14);
        int place = fourteen.length();
        reads(fourteen + "rule p a to p;", 5, place);
        reads(fourteen + "rule", 5, place);
        reads(fourteen + "rule q", 5, place);
        reads(fourteen + "rule p a to p cost 0;", 5, place);
        reads(fourteen + "goal p;rule p a to p;", 5, place + 7);
        faultless(fourteen + "goal p;state q;sign b;");
    }

    private static void oneGoalTooMany() {
        String three = TOLD + "goal p;".repeat(3);
        faultless(three);
        String four = three + "goal p a;";
        faultless(four);
        int place = four.length();
        reads(four + "goal p;", 5, place);
        reads(four + "goal", 5, place);
        reads(four + "goal p a a a a;", 5, place);
        reads(four + "rule p a to p;goal p;", 5, place + 14);
        faultless(four + "rule p a to p;");
    }

    /** A RULE goes to a STATE and at most two SIGNS. */
    private static void signsOfRules() {
        String line = TOLD + "rule p a to p";
        for (int n = 0; n <= 2; n++) {
            CallSteps x = new CallSteps();
            due("4 a rule of " + n, Check.system(x, line + " a".repeat(n) + ";"), 1);
            due("7 it has " + n, x.rule(0, 3), n);
            due("7 the first of " + n, x.rule(0, 4), n > 0 ? 0 : -1);
            due("7 the second of " + n, x.rule(0, 5), n > 1 ? 0 : -1);
            due("7 its cost", x.rule(0, 6), 1);
            CallSteps y = new CallSteps();
            due("4 with a cost, of " + n, Check.system(y, line + " a".repeat(n) + " cost 2;"), 1);
            due("7 has that cost", y.rule(0, 6), 2);
        }
        reads(line + " a a a;", 2, 33);
        reads(line + " a a a cost 2;", 2, 33);
        reads(line + " a a p;", 2, 33);
        reads(line + " a a zz;", 2, 33);
        reads(line + " a a !;", 1, 33);
        reads(line + " a p;", 3, 31);
        reads(line + " p;", 3, 29);
        reads(line + " a more;", 2, 31);
    }

    /** A GOAL has at most three SIGNS, perhaps with more. */
    private static void signsOfGoals() {
        String line = TOLD + "goal p";
        for (int n = 0; n <= 3; n++) {
            for (int more = 0; more < 2; more++) {
                CallSteps x = new CallSteps();
                due("4 a goal of " + n, Check.system(x, line + " a".repeat(n) + (more == 1 ? " more;" : ";")), 0);
                due("8 it has " + n, x.goal(0, 1), n);
                due("8 with more", x.goal(0, 2), more);
                due("8 the last of " + n, x.goal(0, 9 + n), n > 0 ? 0 : -2);
                due("8 none behind " + n, x.goal(0, 10 + n), -2);
            }
        }
        reads(line + " a a a a;", 2, 28);
        reads(line + " a a a a more;", 2, 28);
        reads(line + " a a a p;", 2, 28);
        reads(line + " a a a zz;", 2, 28);
        reads(line + " a a a !;", 1, 28);
        reads(line + " a a p;", 3, 26);
        reads(line + " a a a more more;", 2, 33);
        reads(line + " a a a more a;", 2, 33);
        reads(line + " a a a cost 1;", 2, 28);
    }

    /** 1 .. 99, told by one to three digits. */
    private static void everyCost() {
        String line = TOLD + "rule p a to p a a cost ";
        for (int cost = 0; cost <= 999; cost++) {
            for (String form : new String[] {"%d", "%02d", "%03d"}) {
                String text = line + String.format(form, cost) + ";";
                CallSteps x = new CallSteps();
                boolean can = cost >= 1 && cost <= 99;
                due("4 " + text, Check.system(x, text), can ? 1 : -1);
                due("5 kind of " + text, x.fault(0), can ? 0 : 4);
                due("5 place in " + text, x.fault(1), can ? -1 : 38);
                due("7 cost by " + text, x.rule(0, 6), can ? cost : -2);
            }
        }
        reads(line + ";", 2, 38);
        reads(line, 2, 38);
        reads(line + "cost 5;", 2, 38);
        reads(line + "5 cost 5;", 2, 40);
        // Where no COST stands, a number can't, whichever it is.
        reads(TOLD + "rule p a to p 0;", 2, 29);
        reads(TOLD + "rule p a to p 100;", 2, 29);
        reads(TOLD + "rule 0 a to p;", 2, 20);
        reads("state 100;", 2, 6);
    }

    private static void toldAhead() {
        reads("rule p a to p;state p;sign a;", 3, 5);
        reads("sign a;rule p a to p;state p;", 3, 12);
        reads("state p;rule p a to p;sign a;", 3, 15);
        reads(TOLD + "rule p a to q;state q;", 3, 27);
        reads(TOLD + "rule p a to p b;sign b;", 3, 29);
        reads(TOLD + "rule p a to p a b;sign b;", 3, 31);
        reads("goal p;state p;", 3, 5);
        reads("state p;goal p a;sign a;", 3, 15);
        reads(TOLD + "goal p a a b;sign b;", 3, 26);
        reads("sign a;goal a;", 3, 12);
        faultless(TOLD + "rule p a to p;state q;sign b;rule q b to q b b;goal q b;");
        // STATES and SIGNS are of one sort of names.
        reads("state p;state q;state p;", 3, 22);
        reads("sign a;sign b;sign b;", 3, 19);
        reads("state p;sign p;", 3, 13);
        reads("sign a;state a;", 3, 13);
    }

    // ---- promise 5, Terms 1: FAULTS, the first by its place, at one place the least.

    private static void firstByPlace() {
        reads("state p;state p;!", 3, 14);
        reads("!state p;state p;", 1, 0);
        reads(TOLD + "rule q b to r cost 0;", 3, 20);
        reads(TOLD + "rule p b to r cost 0;", 3, 22);
        reads(TOLD + "rule p a to r cost 0;", 3, 27);
        reads(TOLD + "rule p a to p b cost 0;", 3, 29);
        reads(TOLD + "rule p a to p a cost 0 cost;", 4, 36);
        reads(TOLD + "rule p a to p a cost 1 cost;", 2, 38);
        reads(TOLD + "rule p ; 5x", 2, 22);
        reads(lines("state", "pqrst") + "state p5;", 5, 40);
        reads(lines("state", "pqrs") + "state p;state u;", 3, 38);
    }

    private static void leastAtOnePlace() {
        for (String word : new String[] {"state", "sign", "rule", "goal", "to", "cost", "more"}) {
            // No NAME: such a word can't stand there, rather than being none that is told.
            reads("state " + word + ";", 2, 6);
            reads("sign " + word + ";", 2, 5);
            reads(TOLD + "rule " + word + " a to p;", 2, 20);
            reads(TOLD + "rule p " + word + " to p;", 2, 22);
            reads(TOLD + "rule p a to " + word + ";", 2, 27);
            reads(TOLD + "goal " + word + ";", 2, 20);
            if (!word.equals("cost")) {
                reads(TOLD + "rule p a to p " + word + ";", 2, 29);
            }
            if (!word.equals("more")) {
                reads(TOLD + "goal p " + word + ";", 2, 22);
            }
            boolean isLine = "state sign rule goal".contains(word);
            reads(word, 2, isLine ? word.length() : 0);
        }
        reads(TOLD + "rule p a to p a a b;", 2, 33);
        reads(TOLD + "goal p a a a b;", 2, 28);
        reads(TOLD + "rule p a to p cost 0000;", 1, 34);
        reads(TOLD + "rule p a to p cost 0z;", 1, 34);
        reads(lines("state", "pqrst") + "stateu v;", 2, 40);
        reads(lines("state", "pqrst") + "statesu v;", 1, 40);
    }

    /** The end's place is the text's length. */
    private static void endIsAPlace() {
        String[] parts = {"rule", " p", " a", " to", " p", " a", " a", " cost", " 5"};
        StringBuilder text = new StringBuilder(TOLD);
        for (String part : parts) {
            text.append(part);
            reads(text.toString(), 2, text.length());
            reads(text + " \n", 2, text.length() + 2);
        }
        String[] goal = {"goal", " p", " a", " a", " a", " more"};
        text = new StringBuilder(TOLD);
        for (String part : goal) {
            text.append(part);
            reads(text.toString(), 2, text.length());
        }
        reads("state", 2, 5);
        reads("state p", 2, 7);
        reads("sign", 2, 4);
        reads("sign a\n", 2, 7);
    }

    private static void aSystemBeginsAnew() {
        CallSteps x = Check.made(TOLD + "rule p a to p a a cost 9;rule p a to p a;goal p a a a more;", "p a");
        x.out(0, true);
        x.step(1);
        due("6 acts", x.about(5), 3);
        due("4 another", Check.system(x, TOLD + "rule p a to p;goal p;"), 1);
        due("6 none out", x.about(4), 0);
        due("6 no acts", x.about(5), 0);
        due("6 tape", x.about(6), 0);
        due("10 no now", x.now(1), -2);
        CHECK.due("14 nothing undone", x.undo(), false);
        due("7 no signs then", x.rule(0, 3), 0);
        due("7 no first", x.rule(0, 4), -1);
        due("7 no second", x.rule(0, 5), -1);
        due("7 cost one", x.rule(0, 6), 1);
        due("7 in", x.rule(0, 7), 0);
        due("7 no second rule", x.rule(1, 0), -2);
        due("8 no sign", x.goal(0, 10), -2);
        due("8 not more", x.goal(0, 2), 0);
        due("4 once more", Check.system(x, TOLD + "rule p a to p a;goal p a;"), 1);
        due("7 one sign then", x.rule(0, 4), 0);
        due("7 no second of it", x.rule(0, 5), -1);
        due("7 cost one of it", x.rule(0, 6), 1);
        due("8 one sign", x.goal(0, 10), 0);
        due("8 no second sign", x.goal(0, 11), -2);
    }

    /** Of a text that was refused nothing is left in how the next one is read. */
    private static void eachTextIsReadAnew() {
        String[] first = {"state", "sign", "rule", "goal", "to", "cost", "more", "state p;sign a;rule p a to", "p", "5", ";", "!", "zzzzzzz"};
        String[] second = {"", ";", "5", "!", "p", "to", "1000", "\n;"};
        int[] kinds = {0, 2, 2, 1, 2, 2, 1, 2};
        for (String one : first) {
            CallSteps x = new CallSteps();
            for (int i = 0; i < second.length; i++) {
                due("4 first " + one, Check.system(x, one), -1);
                due("4 then " + second[i], Check.system(x, second[i]), kinds[i] == 0 ? 0 : -1);
                due("5 behind " + one + " kind of " + second[i], x.fault(0), kinds[i]);
                due("5 behind " + one + " place in " + second[i], x.fault(1), kinds[i] == 0 ? -1 : i == 7 ? 1 : 0);
            }
            CallSteps y = Check.made("state p;state q;sign a;sign b;", "q b");
            for (int i = 0; i < second.length; i++) {
                Check.at(y, i % 2 == 0 ? "p a" : "p");
                Check.at(y, one);
                due("9 behind " + one + " then " + second[i], Check.at(y, second[i]), i == 4 ? 0 : -1);
                due("9 kind of " + second[i], y.fault(0), i == 4 ? 0 : Math.max(kinds[i], i == 0 ? 2 : 0));
            }
            due("9 an empty one behind a place", Check.at(y, ""), -1);
        }
    }

    /** NONE: a FAULT (all else stays), but the TAPE is empty then. */
    private static void aFaultKeepsAll() {
        String[] faulty = {"!", "state p", "state x;state x;", "state x;sign y;rule x y to x cost 0;", lines("state", "uvwxyz"),
            "state x;sign y;sign z;rule x y to x z z cost 7;goal x y z;goal x;;"};
        for (int kind = 0; kind < faulty.length; kind++) {
            CallSteps x = Check.made(TOLD + "sign b;rule p a to p b a;rule p b to p cost 2;goal p a a more;", "p a a b");
            x.step(0);
            x.out(1, true);
            String before = Check.standing(x);
            due("4 faulty " + kind, Check.system(x, faulty[kind]), -1);
            due("5 kind " + kind, x.fault(0), Math.min(kind == 5 ? 2 : kind + 1, 5));
            due("6 tape empty " + kind, x.about(6), 0);
            CHECK.stays("4 faulty " + kind, x, before);
            CHECK.due("14 undone behind it", x.undo(), true);
            due("6 in again", x.about(4), 0);
            CHECK.due("14 undone twice", x.undo(), true);
            due("10 now as ahead of the step", x.now(1), 3);
            due("9 names stay", Check.at(x, "p a b"), 2);
            due("9 no others came", Check.at(x, "x"), -1);
        }
        CallSteps none = new CallSteps();
        due("4 faulty at first", Check.system(none, "state p;sign a;rule p a to p;goal p;!"), -1);
        for (int what = 0; what <= 6; what++) {
            due("6 still nothing " + what, none.about(what), 0);
        }
        due("9 no state p", Check.at(none, "p"), -1);
    }

    /** Of the latest system(), at(): 0 and NONE ahead of any and without a FAULT; NONE for another what. */
    private static void faultOfTheLatest() {
        CallSteps x = new CallSteps();
        due("5 ahead of any", x.fault(0), 0);
        due("5 place ahead of any", x.fault(1), -1);
        for (int what : new int[] {-2, -1, 2, 3, 10, LEAST, MOST}) {
            due("5 what " + what, x.fault(what), -1);
        }
        Check.system(x, "state p;sign a;rule p a to p;");
        due("5 without", x.fault(0), 0);
        due("5 place without", x.fault(1), -1);
        Check.at(x, "p a q");
        due("5 of at()", x.fault(0), 3);
        due("5 place of at()", x.fault(1), 4);
        // Only these two have FAULTS.
        x.feed(0, 0, 0, 0, 0);
        x.end(0);
        x.step(0);
        x.run(1, 0);
        x.undo();
        x.out(5, true);
        CHECK.refused("17", () -> x.pops(9, 9, 9));
        due("5 still that", x.fault(0), 3);
        due("5 still there", x.fault(1), 4);
        for (int what : new int[] {-2, -1, 2, 3, LEAST, MOST}) {
            due("5 what " + what + " at a fault", x.fault(what), -1);
        }
        Check.system(x, "state p;!");
        due("5 of system()", x.fault(0), 1);
        due("5 place of system()", x.fault(1), 8);
        Check.at(x, "p a");
        due("5 at() without", x.fault(0), 0);
        due("5 at() without, place", x.fault(1), -1);
        Check.system(x, "!");
        due("5 place 0", x.fault(1), 0);
        Check.system(x, "");
        due("5 system() without", x.fault(0), 0);
        due("5 system() without, place", x.fault(1), -1);
    }

    // ---- promises 6 to 8: what is asked of all that is told.

    private static void aboutAll() {
        CallSteps x = Check.made(Full.TEXT);
        for (int what : new int[] {-2, -1, 7, 8, LEAST, MOST}) {
            due("6 what " + what, x.about(what), -1);
        }
        int bits = 0;
        for (int r = 0; r < 14; r++) {
            CHECK.due("32 out " + r, x.out(r, true), true);
            bits |= 1 << r;
            due("6 out up to " + r, x.about(4), bits);
            due("6 acts up to " + r, x.about(5), Math.min(r + 1, 12));
        }
        due("6 all out", x.about(4), 16383);
        for (int n = 20; n <= 800; n += 20) {
            x.feed(0, 0, 0, 0, 0);
            due("6 bytes", x.about(6), n);
        }
    }

    private static void rulesAll() {
        CallSteps x = Check.made(Full.TEXT);
        int[][] cells = {{0, 0, 0, 0, -1, -1, 1, 0}, {0, 5, 0, 2, 4, 4, 1, 0}, {1, 0, 2, 1, 1, -1, 99, 0}, {3, 5, 3, 2, 5, 5, 50, 0},
            {4, 5, 4, 0, -1, -1, 99, 0}};
        int[] rules = {0, 5, 6, 12, 13};
        for (int i = 0; i < rules.length; i++) {
            for (int what = 0; what <= 7; what++) {
                due("7 rule " + rules[i] + " what " + what, x.rule(rules[i], what), cells[i][what]);
            }
        }
        for (int k : new int[] {-2, -1, 14, 15, LEAST, MOST}) {
            for (int what = 0; what <= 7; what++) {
                due("7 no rule " + k + " what " + what, x.rule(k, what), -2);
            }
        }
        for (int what : new int[] {-2, -1, 8, 9, 10, LEAST, MOST}) {
            due("7 no what " + what, x.rule(0, what), -2);
            due("7 of the last, no what " + what, x.rule(13, what), -2);
        }
        x.out(13, true);
        due("7 the last is out", x.rule(13, 7), 1);
        due("7 the one ahead is in", x.rule(12, 7), 0);
        due("7 the first is in", x.rule(0, 7), 0);
    }

    private static void goalsAll() {
        CallSteps x = Check.made(Full.TEXT);
        int[][] goals = {{0, 0, 0}, {1, 3, 0, 0, 1, 2}, {2, 0, 1}, {4, 3, 0, 5, 5, 5}};
        for (int k = 0; k < 4; k++) {
            for (int what = -1; what <= 14; what++) {
                int cell = what < 3 ? what : what - 7;
                boolean is = what >= 0 && (what < 3 || what >= 10) && cell < goals[k].length;
                due("8 goal " + k + " what " + what, x.goal(k, what), is ? goals[k][cell] : -2);
            }
            due("8 least", x.goal(k, LEAST), -2);
            due("8 most", x.goal(k, MOST), -2);
        }
        for (int k : new int[] {-2, -1, 4, 5, LEAST, MOST}) {
            for (int what : new int[] {0, 1, 2, 10}) {
                due("8 no goal " + k + " what " + what, x.goal(k, what), -2);
            }
        }
    }

    // ---- promise 9: a STATE's NAME, then SIGNS' (40 at most).

    private static void everyHeightTold() {
        for (int n = 0; n <= 43; n++) {
            CallSteps x = Check.made(TOLD + "sign b;");
            int answer = Check.at(x, Full.high("p", n));
            due("9 signs " + n, answer, n <= 40 ? n : -1);
            due("9 kind " + n, x.fault(0), n <= 40 ? 0 : 2);
            due("9 place " + n, x.fault(1), n <= 40 ? -1 : 82);
            due("6 acts " + n, x.about(5), n <= 40 ? 1 : 0);
            due("10 signs " + n, x.now(1), n <= 40 ? n : -2);
            due("9 tape " + n, x.about(6), 0);
        }
        CallSteps x = Check.made(TOLD + "sign b;");
        due("9 forty, blanks behind", Check.at(x, Full.high("\n p", 40) + " \n "), 40);
        due("9 fewer then", Check.at(x, "p b a"), 2);
        due("10 its top", x.now(10), 1);
        due("10 its bottom", x.now(11), 0);
        due("10 none below", x.now(12), -2);
    }

    private static void faultyPlace(CallSteps x, String text, int kind, int place) {
        due("9 " + text, Check.at(x, text), -1);
        due("9 kind of " + text, x.fault(0), kind);
        due("9 place in " + text, x.fault(1), place);
        due("9 tape behind " + text, x.about(6), 0);
    }

    private static void faultsOfAPlace() {
        CallSteps x = Check.made("state p;state q;sign a;sign b;", "q b");
        faultyPlace(x, "", 2, 0);
        faultyPlace(x, "\n\n", 2, 2);
        faultyPlace(x, "a", 3, 0);
        faultyPlace(x, "x", 3, 0);
        faultyPlace(x, "p q", 3, 2);
        faultyPlace(x, "p a b x", 3, 6);
        faultyPlace(x, "p 1", 2, 2);
        faultyPlace(x, "p 1000", 1, 2);
        faultyPlace(x, "p 1a", 1, 2);
        faultyPlace(x, "p;", 2, 1);
        faultyPlace(x, "p a,", 1, 3);
        faultyPlace(x, "1", 2, 0);
        faultyPlace(x, "0000", 1, 0);
        faultyPlace(x, "p abababa", 1, 2);
        for (String word : new String[] {"state", "sign", "rule", "goal", "to", "cost", "more"}) {
            faultyPlace(x, word, 2, 0);
            faultyPlace(x, "p " + word, 2, 2);
        }
        String forty = Full.high("p", 40);
        for (String behind : new String[] {"a", "b", "p", "x", "7", ";", "to", "more"}) {
            faultyPlace(x, forty + " " + behind, 2, 82);
        }
        CallSteps y = Check.made("state p;state q;sign a;sign b;", "q b");
        faultyPlace(y, forty + " !", 1, 82);
        faultyPlace(y, forty + " abcdefg", 1, 82);
        faultyPlace(y, forty + " 1000", 1, 82);
        // Of two FAULTS the first one by its place.
        faultyPlace(y, Full.high("p", 39) + " x !", 3, 80);
        faultyPlace(y, "a a ;", 3, 0);
        CallSteps signs = Check.made("sign a;");
        faultyPlace(signs, "a", 3, 0);
        CallSteps states = Check.made("state p;");
        due("9 without signs", Check.at(states, "p"), 0);
        faultyPlace(states, "p a", 3, 2);
        CallSteps none = new CallSteps();
        faultyPlace(none, "", 2, 0);
        faultyPlace(none, "p", 3, 0);
    }

    private static void aFaultyPlaceKeepsAll() {
        String[] faulty = {"", "!", "p x", "x", "p a b ;", Full.high("p", 41), "p b b b b b to"};
        CallSteps x = Check.made(TOLD + "sign b;rule p a to p b a;rule p b to p cost 2;goal p a a more;", "p a a b");
        x.out(0, true);
        String before = Check.standing(x);
        for (int i = 0; i < faulty.length; i++) {
            due("9 faulty " + i, Check.at(x, faulty[i]), -1);
            due("9 tape empty " + i, x.about(6), 0);
            CHECK.stays("9 faulty " + i, x, before);
        }
        due("9 a place", Check.at(x, "p b"), 1);
        due("9 what is out stays out", x.about(4), 1);
        CHECK.due("14 back", x.undo(), true);
        CHECK.stays("14 back", x, before);
        CallSteps none = Check.made(TOLD);
        due("9 faulty without now", Check.at(none, "p x"), -1);
        due("10 still without", none.now(0), -2);
        due("6 no act", none.about(5), 0);
    }
}
