import java.util.Arrays;
import java.util.NoSuchElementException;

/**
 * Programs that call: rules that change a state and the top of a stack.
 * shared/DOC.md says what each call answers; words in capitals are its terms.
 */
public final class CallSteps {
    public static final int NONE = -1;

    private static final int NOT_THERE = -2;

    private static final int MOST_BYTES = 800;
    private static final int MOST_STATES = 5;
    private static final int MOST_SIGNS = 6;
    private static final int MOST_RULES = 14;
    private static final int MOST_GOALS = 4;
    private static final int MOST_HEIGHT = 40;
    private static final int MOST_COST = 99;
    private static final int MOST_ACTS = 12;
    private static final int MOST_RUN = 100;
    private static final int MOST_WAY = 100;
    private static final int MOST_WORD = 12;

    private static final int HEADS = MOST_STATES * MOST_SIGNS;

    /** Sums above this one are told, and count, as this one. */
    private static final long CAP = 1000000000000000L;
    /** Stands for a sum that there is not, so that the least of sums passes it over. */
    private static final long FAR = CAP + 1;

    // The cells of a RULE and of a GOAL, numbered as rule() and goal() ask for them.
    private static final int RULE_STATE = 0;
    private static final int RULE_SIGN = 1;
    private static final int RULE_TO = 2;
    private static final int RULE_COUNT = 3;
    private static final int RULE_FIRST = 4;
    private static final int RULE_SECOND = 5;
    private static final int RULE_COST = 6;
    private static final int RULE_CELLS = 7;
    private static final int RULE_SIGNS = 2;

    private static final int GOAL_STATE = 0;
    private static final int GOAL_COUNT = 1;
    private static final int GOAL_MORE = 2;
    private static final int GOAL_FIRST = 3;
    private static final int GOAL_SIGNS = 3;
    private static final int GOAL_CELLS = GOAL_FIRST + GOAL_SIGNS;

    /** What goal() and now() add to the number of a SIGN that they are asked for. */
    private static final int ASK_SIGN = 10;

    private final Tape tape;
    private final Reader reader;
    private final Place here;
    private final Place readPlace;
    private final Acts acts;
    private final Costs goalCosts;
    private final Costs otherCosts;
    private final Walk walk;
    private final Heads heads;
    private final Machines machines;
    private Program program;
    private Program readProgram;
    private int outBits;
    private boolean costsStand;
    private boolean machinesStand;

    public CallSteps() {
        tape = new Tape();
        program = new Program();
        readProgram = new Program();
        reader = new Reader(tape, readProgram);
        here = new Place(MOST_HEIGHT);
        readPlace = new Place(MOST_HEIGHT);
        acts = new Acts();
        goalCosts = new Costs(MOST_HEIGHT + MOST_WAY);
        otherCosts = new Costs(MOST_HEIGHT);
        walk = new Walk();
        heads = new Heads(program, goalCosts);
        machines = new Machines();
        outBits = 0;
        costsStand = false;
        machinesStand = false;
    }

    public int feed(int a, int b, int c, int d, int e) {
        if (tape.length + 20 > MOST_BYTES) {
            return NONE;
        }
        tape.addFour(a);
        tape.addFour(b);
        tape.addFour(c);
        tape.addFour(d);
        tape.addFour(e);
        return tape.length;
    }

    public int end(int n) {
        if (n < 0 || n > tape.length) {
            return NONE;
        }
        tape.cut(n);
        return n;
    }

    public int system() {
        boolean whole = reader.readsProgram(readProgram);
        tape.cut(0);
        if (!whole) {
            return NONE;
        }
        Program former = program;
        program = readProgram;
        readProgram = former;
        here.forget();
        acts.forget();
        putOut(0);
        return program.rules;
    }

    public int fault(int what) {
        if (what == 0) {
            return reader.fault;
        }
        return what == 1 ? reader.faultPlace : NONE;
    }

    public int about(int what) {
        switch (what) {
            case 0: return program.states;
            case 1: return program.signs;
            case 2: return program.rules;
            case 3: return program.goals;
            case 4: return outBits;
            case 5: return acts.count;
            case 6: return tape.length;
            default: return NONE;
        }
    }

    public int rule(int k, int what) {
        if (!program.hasRule(k)) {
            return NOT_THERE;
        }
        if (what == RULE_CELLS) {
            return isOut(k) ? 1 : 0;
        }
        return what >= 0 && what < RULE_CELLS ? program.ofRule(k, what) : NOT_THERE;
    }

    public int goal(int k, int what) {
        if (k < 0 || k >= program.goals) {
            return NOT_THERE;
        }
        if (what >= 0 && what <= GOAL_MORE) {
            return program.ofGoal(k, what);
        }
        boolean isThere = what >= ASK_SIGN && what - ASK_SIGN < program.ofGoal(k, GOAL_COUNT);
        return isThere ? program.ofGoal(k, GOAL_FIRST + what - ASK_SIGN) : NOT_THERE;
    }

    // ---- NOW

    public int at() {
        boolean whole = reader.readsPlace(program, readPlace);
        tape.cut(0);
        if (!whole) {
            return NONE;
        }
        acts.keep(here, outBits);
        here.become(readPlace);
        return here.height;
    }

    public int now(int what) {
        if (here.isNone()) {
            return NOT_THERE;
        }
        switch (what) {
            case 0: return here.state;
            case 1: return here.height;
            case 2: return isAtGoal() ? 1 : 0;
            default: break;
        }
        boolean isThere = what >= ASK_SIGN && what - ASK_SIGN < here.height;
        return isThere ? here.fromTop(what - ASK_SIGN) : NOT_THERE;
    }

    public int can() {
        int bits = 0;
        for (int r = 0; r < program.rules; r++) {
            if (canStep(r)) {
                bits |= 1 << r;
            }
        }
        return bits;
    }

    public int step(int rule) {
        if (!canStep(rule)) {
            return NONE;
        }
        acts.keep(here, outBits);
        here.stepBy(program, rule);
        return here.height;
    }

    public int run(int seed, int n) {
        if (here.isNone() || n < 1 || n > MOST_RUN) {
            return NONE;
        }
        acts.keep(here, outBits);
        int value = seed;
        for (int done = 0; done < n; done++) {
            int bits = can();
            int choices = Integer.bitCount(bits);
            if (choices == 0) {
                return done;
            }
            value = value * 1103515245 + 12345;
            here.stepBy(program, bitByNumber(bits, (value >>> 16) % choices));
        }
        return n;
    }

    public boolean undo() {
        if (acts.count == 0) {
            return false;
        }
        putOut(acts.takeBack(here));
        return true;
    }

    // ---- costs

    public long cost() {
        return here.isNone() ? NONE : told(costOfNow());
    }

    public int way(int i) {
        if (here.isNone() || costOfNow() >= FAR) {
            return NONE;
        }
        walk.follow(goalCosts, program, outBits, here);
        if (walk.isTooLong) {
            return NOT_THERE;
        }
        if (i == NONE) {
            return walk.steps;
        }
        return i >= 0 && i < walk.steps ? walk.ruleAt(i) : NONE;
    }

    public long pops(int p, int g, int q) throws NoSuchElementException {
        if (!program.hasState(p) || !program.hasSign(g) || !program.hasState(q)) {
            throw new NoSuchElementException("no such state or sign");
        }
        settleCosts();
        return told(goalCosts.edge(p, g, q));
    }

    public long matters(int rule) {
        if (here.isNone() || !program.hasRule(rule) || isOut(rule)) {
            return NOT_THERE;
        }
        long with = costOfNow();
        if (with >= FAR) {
            return NOT_THERE;
        }
        otherCosts.startForGoals(program);
        otherCosts.saturate(program, outBits | 1 << rule);
        long without = otherCosts.of(here);
        return without >= FAR ? NONE : without - with;
    }

    // ---- what comes up

    public long comes(int p, int g) {
        boolean isThere = program.hasState(p) && (g == NONE || program.hasSign(g));
        if (here.isNone() || !isThere) {
            return NONE;
        }
        otherCosts.start(program.signs);
        if (g == NONE) {
            otherCosts.aimAtNothing(p);
        } else {
            otherCosts.aimAtHead(p, g);
        }
        otherCosts.saturate(program, outBits);
        return told(otherCosts.of(here));
    }

    public int height() {
        if (here.isNone()) {
            return NOT_THERE;
        }
        settleHeads();
        heads.findRises();
        return heads.highestFrom(here);
    }

    public int rises(int p, int g) throws NoSuchElementException {
        if (!program.hasState(p) || !program.hasSign(g)) {
            throw new NoSuchElementException("no such state or sign");
        }
        settleHeads();
        heads.findRises();
        return heads.riseOf(p, g);
    }

    public int lasts(int p, int g) throws NoSuchElementException {
        if (!program.hasState(p) || !program.hasSign(g)) {
            throw new NoSuchElementException("no such state or sign");
        }
        settleHeads();
        heads.findLasting();
        return heads.isLasting(p, g) ? 1 : 0;
    }

    public int endless() {
        if (here.isNone()) {
            return NONE;
        }
        settleHeads();
        heads.findLasting();
        return heads.lastsFrom(here) ? 1 : 0;
    }

    public long longest() {
        if (here.isNone()) {
            return NOT_THERE;
        }
        settleHeads();
        heads.findLasting();
        // Without a run for ever the STEPS have a bound, as there are but few RULES to choose from.
        if (heads.lastsFrom(here)) {
            return NONE;
        }
        heads.findMostSteps();
        return heads.mostStepsFrom(here);
    }

    public long stuck() {
        if (here.isNone()) {
            return NONE;
        }
        otherCosts.start(program.signs);
        for (int p = 0; p < program.states; p++) {
            for (int g = 0; g < program.signs; g++) {
                if (!program.hasRuleFor(p, g, outBits)) {
                    otherCosts.aimAtHead(p, g);
                }
            }
        }
        otherCosts.saturate(program, outBits);
        return told(otherCosts.of(here));
    }

    // ---- machines

    public int machine(int p) {
        if (!program.hasState(p)) {
            return NONE;
        }
        settleMachine(p);
        return machines.nodes;
    }

    public int next(int p, int k, int g) {
        if (!program.hasState(p) || !program.hasSign(g)) {
            return NONE;
        }
        settleMachine(p);
        return machines.hasNode(k) ? machines.nodeBehind(k, g) : NONE;
    }

    public int good(int p, int k) {
        if (!program.hasState(p)) {
            return NONE;
        }
        settleMachine(p);
        if (!machines.hasNode(k)) {
            return NONE;
        }
        return machines.isGoodNode(k) ? 1 : 0;
    }

    public long stacks(int p, int n) {
        if (!program.hasState(p) || n < 0 || n > MOST_WORD) {
            return NONE;
        }
        settleMachine(p);
        return machines.countWords(n);
    }

    public int shortest(int p, int i) {
        if (!program.hasState(p)) {
            return NONE;
        }
        settleMachine(p);
        int node = machines.firstGoodNode();
        if (node == NONE) {
            return NONE;
        }
        int length = machines.depthOf(node);
        if (i == NONE) {
            return length;
        }
        return i >= 0 && i < length ? machines.signOnTheWay(node, length - 1 - i) : NONE;
    }

    public int same(int p, int q) {
        if (!program.hasState(p) || !program.hasState(q)) {
            return NONE;
        }
        settleMachine(p);
        return machines.startAlike(p, q) ? 1 : 0;
    }

    // ---- rules

    public boolean out(int rule, boolean is) {
        if (!program.hasRule(rule) || isOut(rule) == is) {
            return false;
        }
        acts.keep(here, outBits);
        putOut(outBits ^ 1 << rule);
        return true;
    }

    // ---- what the calls above share

    private boolean isOut(int r) {
        return (outBits >>> r & 1) == 1;
    }

    private void putOut(int bits) {
        outBits = bits;
        costsStand = false;
        machinesStand = false;
    }

    private boolean isAtGoal() {
        for (int k = 0; k < program.goals; k++) {
            if (program.isAtGoal(k, here)) {
                return true;
            }
        }
        return false;
    }

    private boolean canStep(int r) {
        return program.applies(r, here, outBits)
            && here.height - 1 + program.ofRule(r, RULE_COUNT) <= MOST_HEIGHT;
    }

    private void settleCosts() {
        if (!costsStand) {
            goalCosts.startForGoals(program);
            goalCosts.saturate(program, outBits);
            costsStand = true;
        }
    }

    private void settleHeads() {
        settleCosts();
        heads.lookAt(program, outBits);
    }

    private void settleMachine(int p) {
        settleCosts();
        if (!machinesStand) {
            machines.build(program, goalCosts);
            machines.sortOut();
            machinesStand = true;
        }
        machines.numberFrom(p);
    }

    private long costOfNow() {
        settleCosts();
        return goalCosts.of(here);
    }

    private static long told(long sum) {
        return sum >= FAR ? NONE : sum;
    }

    private static int bitByNumber(int bits, int number) {
        int left = number;
        for (int r = 0; r < MOST_RULES; r++) {
            if ((bits >>> r & 1) == 1) {
                if (left == 0) {
                    return r;
                }
                left--;
            }
        }
        return NONE;
    }

    /** A row of ints that tests each index itself: outside of it NONE is read, and nothing is written. */
    private static final class Ints {
        private int[] cells;

        Ints(int length) {
            cells = new int[length < 0 ? 0 : length];
        }

        int get(int i) {
            return i >= 0 && i < cells.length ? cells[i] : NONE;
        }

        void set(int i, int value) {
            if (i >= 0 && i < cells.length) {
                cells[i] = value;
            }
        }

        void fill(int value) {
            Arrays.fill(cells, value);
        }

        void widen(int length) {
            if (length > cells.length) {
                cells = Arrays.copyOf(cells, length);
            }
        }
    }

    /** A row of longs that tests each index itself: outside of it FAR is read, and nothing is written. */
    private static final class Longs {
        private long[] cells;

        static long sum(long a, long b) {
            if (a >= FAR || b >= FAR) {
                return FAR;
            }
            return a + b > CAP ? CAP : a + b;
        }

        Longs(int length) {
            cells = new long[length < 0 ? 0 : length];
        }

        long get(int i) {
            return i >= 0 && i < cells.length ? cells[i] : FAR;
        }

        void set(int i, long value) {
            if (i >= 0 && i < cells.length) {
                cells[i] = value;
            }
        }

        void fill(long value) {
            Arrays.fill(cells, value);
        }

        void widen(int length) {
            if (length > cells.length) {
                cells = Arrays.copyOf(cells, length);
            }
        }
    }

    /** The TAPE, and the token of it that is to be taken. */
    private static final class Tape {
        static final int END = 0;
        static final int NO_TOKEN = 1;
        static final int WORD = 2;
        static final int NUMBER = 3;
        static final int SEMICOLON = 4;

        // The words of the lines, told as tokens are: eight bits for each letter.
        static final long STATE = 0x7374617465L;
        static final long SIGN = 0x7369676eL;
        static final long RULE = 0x72756c65L;
        static final long GOAL = 0x676f616cL;
        static final long TO = 0x746fL;
        static final long COST = 0x636f7374L;
        static final long MORE = 0x6d6f7265L;

        private static final int MOST_LETTERS = 6;
        private static final int MOST_DIGITS = 3;

        private final int[] bytes = new int[MOST_BYTES];
        private int behind = 0;
        int length = 0;
        int kind = END;
        int place = 0;
        long letters = 0;
        int number = 0;

        void addFour(int four) {
            for (int shift = 24; shift >= 0; shift -= 8) {
                if (length >= 0 && length < bytes.length) {
                    bytes[length] = four >>> shift & 255;
                    length++;
                }
            }
        }

        void cut(int n) {
            length = n;
        }

        private int byteAt(int i) {
            return i >= 0 && i < length && i < bytes.length ? bytes[i] : NONE;
        }

        private static boolean isLetter(int b) {
            return b >= 'a' && b <= 'z';
        }

        private static boolean isDigit(int b) {
            return b >= '0' && b <= '9';
        }

        private static boolean isBlank(int b) {
            return b == 32 || b == 10;
        }

        void takeFirst() {
            behind = 0;
            takeNext();
        }

        void takeNext() {
            place = behind;
            while (place < length && isBlank(byteAt(place))) {
                place++;
            }
            int first = byteAt(place);
            behind = place;
            if (place >= length) {
                kind = END;
            } else if (isLetter(first)) {
                takeWord();
            } else if (isDigit(first)) {
                takeNumber();
            } else {
                kind = first == ';' ? SEMICOLON : NO_TOKEN;
                behind++;
            }
        }

        private void takeWord() {
            letters = 0;
            while (behind < length && isLetter(byteAt(behind))) {
                letters = letters << 8 | byteAt(behind);
                behind++;
            }
            kind = behind - place <= MOST_LETTERS ? WORD : NO_TOKEN;
        }

        private void takeNumber() {
            number = 0;
            while (behind < length && isDigit(byteAt(behind))) {
                number = number * 10 + byteAt(behind) - '0';
                behind++;
            }
            boolean isShort = behind - place <= MOST_DIGITS;
            kind = isShort && !isLetter(byteAt(behind)) ? NUMBER : NO_TOKEN;
        }

        boolean isWord(long word) {
            return kind == WORD && letters == word;
        }

        boolean isName() {
            return kind == WORD
                && letters != STATE && letters != SIGN && letters != RULE && letters != GOAL
                && letters != TO && letters != COST && letters != MORE;
        }
    }

    /** Reads the TAPE as a SYSTEM or as a PLACE; its FAULT is the first one by its place. */
    private static final class Reader {
        private static final int NO_SUCH_TOKEN = 1;
        private static final int CANT_STAND = 2;
        private static final int WRONG_NAME = 3;
        private static final int WRONG_COST = 4;
        private static final int TOO_MANY = 5;

        private final Tape tape;
        private Program program;
        int fault = 0;
        int faultPlace = NONE;

        Reader(Tape tape, Program program) {
            this.tape = tape;
            this.program = program;
        }

        boolean readsProgram(Program into) {
            begin(into);
            into.clear();
            boolean whole = true;
            // A line takes more than one byte, so the most bytes bound the lines.
            for (int line = 0; whole && line < MOST_BYTES && tape.kind != Tape.END; line++) {
                if (tape.isWord(Tape.STATE)) {
                    whole = readsState();
                } else if (tape.isWord(Tape.SIGN)) {
                    whole = readsSign();
                } else if (tape.isWord(Tape.RULE)) {
                    whole = readsRule();
                } else if (tape.isWord(Tape.GOAL)) {
                    whole = readsGoal();
                } else {
                    whole = refuse();
                }
            }
            return whole;
        }

        boolean readsPlace(Program of, Place into) {
            begin(of);
            into.forget();
            int state = takeNamed(program.stateNamed(tape.letters));
            if (state == NONE) {
                return false;
            }
            for (int i = 0; i < MOST_HEIGHT && tape.kind != Tape.END; i++) {
                int sign = takeNamed(program.signNamed(tape.letters));
                if (sign == NONE) {
                    return false;
                }
                into.push(sign);
            }
            if (tape.kind != Tape.END) {
                return refuse();
            }
            into.state = state;
            into.turnOver();
            return true;
        }

        private void begin(Program with) {
            program = with;
            fault = 0;
            faultPlace = NONE;
            tape.takeFirst();
        }

        private boolean fail(int kind) {
            fault = kind;
            faultPlace = tape.place;
            return false;
        }

        private boolean refuse() {
            return fail(tape.kind == Tape.NO_TOKEN ? NO_SUCH_TOKEN : CANT_STAND);
        }

        private boolean readsState() {
            if (program.states >= MOST_STATES) {
                return fail(TOO_MANY);
            }
            tape.takeNext();
            if (!isNewName()) {
                return false;
            }
            program.addState(tape.letters);
            tape.takeNext();
            return readsSemicolon();
        }

        private boolean readsSign() {
            if (program.signs >= MOST_SIGNS) {
                return fail(TOO_MANY);
            }
            tape.takeNext();
            if (!isNewName()) {
                return false;
            }
            program.addSign(tape.letters);
            tape.takeNext();
            return readsSemicolon();
        }

        private boolean isNewName() {
            if (!tape.isName()) {
                return refuse();
            }
            boolean isTold = program.stateNamed(tape.letters) != NONE
                || program.signNamed(tape.letters) != NONE;
            return isTold ? fail(WRONG_NAME) : true;
        }

        private boolean readsRule() {
            if (program.rules >= MOST_RULES) {
                return fail(TOO_MANY);
            }
            tape.takeNext();
            int r = program.rules;
            boolean whole = readsRuleState(r, RULE_STATE)
                && readsRuleSign(r, RULE_SIGN)
                && readsTo()
                && readsRuleState(r, RULE_TO)
                && readsRuleSigns(r)
                && readsRuleCost(r)
                && readsSemicolon();
            if (whole) {
                program.rules++;
            }
            return whole;
        }

        private boolean readsRuleState(int r, int cell) {
            int state = takeNamed(program.stateNamed(tape.letters));
            program.setRule(r, cell, state);
            return state != NONE;
        }

        private boolean readsRuleSign(int r, int cell) {
            int sign = takeNamed(program.signNamed(tape.letters));
            program.setRule(r, cell, sign);
            return sign != NONE;
        }

        private boolean readsTo() {
            if (!tape.isWord(Tape.TO)) {
                return refuse();
            }
            tape.takeNext();
            return true;
        }

        private boolean readsRuleSigns(int r) {
            program.setRule(r, RULE_FIRST, NONE);
            program.setRule(r, RULE_SECOND, NONE);
            int count = 0;
            while (count < RULE_SIGNS && tape.isName()) {
                int sign = takeNamed(program.signNamed(tape.letters));
                if (sign == NONE) {
                    return false;
                }
                program.setRule(r, RULE_FIRST + count, sign);
                count++;
            }
            program.setRule(r, RULE_COUNT, count);
            return true;
        }

        private boolean readsRuleCost(int r) {
            program.setRule(r, RULE_COST, 1);
            if (!tape.isWord(Tape.COST)) {
                return true;
            }
            tape.takeNext();
            if (tape.kind != Tape.NUMBER) {
                return refuse();
            }
            if (tape.number < 1 || tape.number > MOST_COST) {
                return fail(WRONG_COST);
            }
            program.setRule(r, RULE_COST, tape.number);
            tape.takeNext();
            return true;
        }

        private boolean readsGoal() {
            if (program.goals >= MOST_GOALS) {
                return fail(TOO_MANY);
            }
            tape.takeNext();
            int k = program.goals;
            int state = takeNamed(program.stateNamed(tape.letters));
            program.setGoal(k, GOAL_STATE, state);
            if (state == NONE || !readsGoalSigns(k)) {
                return false;
            }
            boolean more = tape.isWord(Tape.MORE);
            program.setGoal(k, GOAL_MORE, more ? 1 : 0);
            if (more) {
                tape.takeNext();
            }
            if (!readsSemicolon()) {
                return false;
            }
            program.goals++;
            return true;
        }

        private boolean readsGoalSigns(int k) {
            int count = 0;
            while (count < GOAL_SIGNS && tape.isName()) {
                int sign = takeNamed(program.signNamed(tape.letters));
                if (sign == NONE) {
                    return false;
                }
                program.setGoal(k, GOAL_FIRST + count, sign);
                count++;
            }
            program.setGoal(k, GOAL_COUNT, count);
            return true;
        }

        private boolean readsSemicolon() {
            if (tape.kind != Tape.SEMICOLON) {
                return refuse();
            }
            tape.takeNext();
            return true;
        }

        /** Takes the token, if it is a NAME of what is told by its number (NONE: of none), and answers that. */
        private int takeNamed(int named) {
            if (!tape.isName()) {
                refuse();
                return NONE;
            }
            if (named == NONE) {
                fail(WRONG_NAME);
                return NONE;
            }
            tape.takeNext();
            return named;
        }
    }

    /** A SYSTEM; which RULES are OUT is told to it as bits. */
    private static final class Program {
        private final Longs stateNames = new Longs(MOST_STATES);
        private final Longs signNames = new Longs(MOST_SIGNS);
        private final Ints ruleCells = new Ints(MOST_RULES * RULE_CELLS);
        private final Ints goalCells = new Ints(MOST_GOALS * GOAL_CELLS);
        int states = 0;
        int signs = 0;
        int rules = 0;
        int goals = 0;

        void clear() {
            states = 0;
            signs = 0;
            rules = 0;
            goals = 0;
        }

        void addState(long name) {
            stateNames.set(states, name);
            states++;
        }

        void addSign(long name) {
            signNames.set(signs, name);
            signs++;
        }

        int stateNamed(long name) {
            for (int p = 0; p < states; p++) {
                if (stateNames.get(p) == name) {
                    return p;
                }
            }
            return NONE;
        }

        int signNamed(long name) {
            for (int g = 0; g < signs; g++) {
                if (signNames.get(g) == name) {
                    return g;
                }
            }
            return NONE;
        }

        void setRule(int r, int cell, int value) {
            ruleCells.set(r * RULE_CELLS + cell, value);
        }

        int ofRule(int r, int cell) {
            return ruleCells.get(r * RULE_CELLS + cell);
        }

        void setGoal(int k, int cell, int value) {
            goalCells.set(k * GOAL_CELLS + cell, value);
        }

        int ofGoal(int k, int cell) {
            return goalCells.get(k * GOAL_CELLS + cell);
        }

        boolean hasState(int p) {
            return p >= 0 && p < states;
        }

        boolean hasSign(int g) {
            return g >= 0 && g < signs;
        }

        boolean hasRule(int r) {
            return r >= 0 && r < rules;
        }

        boolean isIn(int r, int outBits) {
            return hasRule(r) && (outBits >>> r & 1) == 0;
        }

        boolean isFor(int r, int p, int g, int outBits) {
            return isIn(r, outBits) && ofRule(r, RULE_STATE) == p && ofRule(r, RULE_SIGN) == g;
        }

        boolean hasRuleFor(int p, int g, int outBits) {
            for (int r = 0; r < rules; r++) {
                if (isFor(r, p, g, outBits)) {
                    return true;
                }
            }
            return false;
        }

        boolean applies(int r, Place place, int outBits) {
            return place.height > 0 && isFor(r, place.state, place.fromTop(0), outBits);
        }

        boolean isAtGoal(int k, Place place) {
            int count = ofGoal(k, GOAL_COUNT);
            boolean reaches = ofGoal(k, GOAL_MORE) == 1 ? place.height >= count : place.height == count;
            if (!reaches || place.state != ofGoal(k, GOAL_STATE)) {
                return false;
            }
            for (int i = 0; i < count; i++) {
                if (place.fromTop(i) != ofGoal(k, GOAL_FIRST + i)) {
                    return false;
                }
            }
            return true;
        }
    }

    /** A PLACE, its STACK kept from the bottom up; or none. */
    private static final class Place {
        private final int room;
        private final Ints signs;
        int state = NONE;
        int height = 0;

        Place(int room) {
            this.room = room;
            signs = new Ints(room);
        }

        boolean isNone() {
            return state == NONE;
        }

        void forget() {
            state = NONE;
            height = 0;
        }

        void become(Place other) {
            forget();
            for (int level = 0; level < other.height; level++) {
                push(other.signAt(level));
            }
            state = other.state;
        }

        int signAt(int level) {
            return signs.get(level);
        }

        int fromTop(int i) {
            return signs.get(height - 1 - i);
        }

        void push(int sign) {
            if (height < room) {
                signs.set(height, sign);
                height++;
            }
        }

        void stepBy(Program program, int r) {
            if (height == 0) {
                return;
            }
            height--;
            state = program.ofRule(r, RULE_TO);
            for (int i = program.ofRule(r, RULE_COUNT) - 1; i >= 0; i--) {
                push(program.ofRule(r, RULE_FIRST + i));
            }
        }

        void turnOver() {
            for (int low = 0; low < height / 2; low++) {
                int high = height - 1 - low;
                int sign = signs.get(low);
                signs.set(low, signs.get(high));
                signs.set(high, sign);
            }
        }
    }

    /** What NOW and the RULES that are OUT were ahead of each of the latest ACTS. */
    private static final class Acts {
        private static final int STATE = 0;
        private static final int HEIGHT = 1;
        private static final int OUT = 2;
        private static final int SIGNS = 3;
        private static final int CELLS = SIGNS + MOST_HEIGHT;

        private final Ints cells = new Ints(MOST_ACTS * CELLS);
        private int oldest = 0;
        int count = 0;

        void forget() {
            count = 0;
        }

        void keep(Place place, int outBits) {
            if (count == MOST_ACTS) {
                oldest = (oldest + 1) % MOST_ACTS;
                count--;
            }
            int from = startOf(count);
            cells.set(from + STATE, place.state);
            cells.set(from + HEIGHT, place.height);
            cells.set(from + OUT, outBits);
            for (int level = 0; level < place.height; level++) {
                cells.set(from + SIGNS + level, place.signAt(level));
            }
            count++;
        }

        /** Brings the PLACE back and answers the RULES that were OUT. */
        int takeBack(Place place) {
            count--;
            int from = startOf(count);
            int height = cells.get(from + HEIGHT);
            place.forget();
            for (int level = 0; level < height; level++) {
                place.push(cells.get(from + SIGNS + level));
            }
            place.state = cells.get(from + STATE);
            return cells.get(from + OUT);
        }

        private int startOf(int act) {
            return (oldest + act) % MOST_ACTS * CELLS;
        }
    }

    /**
     * The least sums by which PLACES come to aims, of which there may be endlessly many PLACES:
     * a net of nodes that reads a STACK, top first. The STATES are its first nodes; an edge from
     * a STATE by a SIGN to a node costs what it takes to make of that SIGN what the node stands
     * for. An edge to a STATE is a POP.
     */
    private static final class Costs {
        /** At this node the aim is met, whatever SIGNS are below. */
        static final int ALL = MOST_STATES;
        /** At this node the aim is met, if there are no SIGNS below. */
        private static final int BOTTOM = MOST_STATES + 1;
        private static final int INNER = MOST_STATES + 2;
        private static final int INNER_OF_GOAL = GOAL_SIGNS - 1;
        static final int NODES = INNER + MOST_GOALS * INNER_OF_GOAL;

        /** Each round brings in the least sums told by one level of edges more; no edge stands on itself. */
        private static final int MOST_ROUNDS = HEADS * NODES + 1;

        private final Longs edges = new Longs(NODES * MOST_SIGNS * NODES);
        /** For each height of a STACK, from none on: what each node still costs with it. */
        private final Longs rows;

        Costs(int mostHeight) {
            rows = new Longs((mostHeight + 1) * NODES);
        }

        void start(int signs) {
            edges.fill(FAR);
            for (int g = 0; g < signs; g++) {
                lower(ALL, g, ALL, 0);
            }
            for (int node = 0; node < NODES; node++) {
                rows.set(node, FAR);
            }
            aimAtNothing(ALL);
            aimAtNothing(BOTTOM);
        }

        void startForGoals(Program program) {
            start(program.signs);
            for (int k = 0; k < program.goals; k++) {
                aimAtGoal(program, k);
            }
        }

        void aimAtNothing(int node) {
            rows.set(node, 0);
        }

        void aimAtHead(int p, int g) {
            lower(p, g, ALL, 0);
        }

        private void aimAtGoal(Program program, int k) {
            int count = program.ofGoal(k, GOAL_COUNT);
            boolean more = program.ofGoal(k, GOAL_MORE) == 1;
            int node = program.ofGoal(k, GOAL_STATE);
            if (count == 0) {
                aimAtNothing(node);
            }
            for (int g = 0; count == 0 && more && g < program.signs; g++) {
                aimAtHead(node, g);
            }
            for (int i = 0; i < count; i++) {
                int target = more ? ALL : BOTTOM;
                if (i < count - 1) {
                    target = INNER + k * INNER_OF_GOAL + i;
                }
                lower(node, program.ofGoal(k, GOAL_FIRST + i), target, 0);
                node = target;
            }
        }

        long edge(int node, int g, int target) {
            return edges.get((node * MOST_SIGNS + g) * NODES + target);
        }

        private boolean lower(int node, int g, int target, long to) {
            int at = (node * MOST_SIGNS + g) * NODES + target;
            if (to >= edges.get(at)) {
                return false;
            }
            edges.set(at, to);
            return true;
        }

        void saturate(Program program, int outBits) {
            boolean changes = true;
            for (int round = 0; changes && round < MOST_ROUNDS; round++) {
                changes = false;
                for (int r = 0; r < program.rules; r++) {
                    if (program.isIn(r, outBits) && lowerBy(program, r)) {
                        changes = true;
                    }
                }
            }
        }

        private boolean lowerBy(Program program, int r) {
            int p = program.ofRule(r, RULE_STATE);
            int g = program.ofRule(r, RULE_SIGN);
            int to = program.ofRule(r, RULE_TO);
            int first = program.ofRule(r, RULE_FIRST);
            int second = program.ofRule(r, RULE_SECOND);
            long price = program.ofRule(r, RULE_COST);
            if (first == NONE) {
                return lower(p, g, to, price);
            }
            boolean changes = false;
            for (int node = 0; node < NODES; node++) {
                long spent = Longs.sum(price, edge(to, first, node));
                if (spent < FAR) {
                    boolean lowers = second == NONE
                        ? lower(p, g, node, spent)
                        : lowerThrough(p, g, node, second, spent);
                    changes = changes || lowers;
                }
            }
            return changes;
        }

        private boolean lowerThrough(int p, int g, int middle, int second, long spent) {
            boolean changes = false;
            for (int node = 0; node < NODES; node++) {
                if (lower(p, g, node, Longs.sum(spent, edge(middle, second, node)))) {
                    changes = true;
                }
            }
            return changes;
        }

        long of(Place place) {
            for (int level = 0; level < place.height; level++) {
                layRow(level, place.signAt(level));
            }
            return left(place.height, place.state);
        }

        /** What each node costs with one SIGN more on the STACK of that height. */
        void layRow(int height, int sign) {
            for (int node = 0; node < NODES; node++) {
                rows.set((height + 1) * NODES + node, leftBy(height, node, sign));
            }
        }

        long left(int height, int node) {
            return rows.get(height * NODES + node);
        }

        private long leftBy(int height, int node, int sign) {
            long least = FAR;
            for (int target = 0; target < NODES; target++) {
                long price = edge(node, sign, target);
                if (price < least) {
                    least = Math.min(least, Longs.sum(price, left(height, target)));
                }
            }
            return least;
        }

        /** COST of the PLACE behind a RULE; the rows must be those of the PLACE ahead of it. */
        long behind(Place place, Program program, int r) {
            int height = place.height - 1;
            int to = program.ofRule(r, RULE_TO);
            int first = program.ofRule(r, RULE_FIRST);
            int second = program.ofRule(r, RULE_SECOND);
            if (first == NONE) {
                return left(height, to);
            }
            if (second == NONE) {
                return leftBy(height, to, first);
            }
            long least = FAR;
            for (int node = 0; node < NODES; node++) {
                long price = edge(to, first, node);
                if (price < least) {
                    least = Math.min(least, Longs.sum(price, leftBy(height, node, second)));
                }
            }
            return least;
        }
    }

    /** WAY of a PLACE that has a COST. */
    private static final class Walk {
        private final Place place = new Place(MOST_HEIGHT + MOST_WAY);
        private final Ints trail = new Ints(MOST_WAY);
        int steps = 0;
        boolean isTooLong = false;

        int ruleAt(int i) {
            return trail.get(i);
        }

        void follow(Costs costs, Program program, int outBits, Place from) {
            place.become(from);
            steps = 0;
            long left = costs.of(place);
            // A sum that so many STEPS can't make tells a WAY too long, and so does one at the CAP.
            isTooLong = left > MOST_COST * MOST_WAY;
            while (left > 0 && steps < MOST_WAY && !isTooLong) {
                int r = leastRule(costs, program, outBits, left);
                if (r == NONE) {
                    break;
                }
                left -= program.ofRule(r, RULE_COST);
                trail.set(steps, r);
                steps++;
                stepBy(costs, program, r);
            }
            isTooLong = left > 0;
        }

        private int leastRule(Costs costs, Program program, int outBits, long left) {
            for (int r = 0; r < program.rules; r++) {
                if (program.applies(r, place, outBits)
                        && Longs.sum(program.ofRule(r, RULE_COST), costs.behind(place, program, r)) == left) {
                    return r;
                }
            }
            return NONE;
        }

        private void stepBy(Costs costs, Program program, int r) {
            int kept = place.height - 1;
            place.stepBy(program, r);
            for (int level = kept; level < place.height; level++) {
                costs.layRow(level, place.signAt(level));
            }
        }
    }

    /**
     * What HEADS do while the STACK below them is kept. A RULE leads from its HEAD to the HEAD on
     * top of its SIGNS, and to each one in which its first SIGN's POP can end on its second SIGN.
     */
    private static final class Heads {
        /** A RISE without a bound: without one no HEAD comes again higher, so all are at most HEADS. */
        private static final int HIGH = HEADS + 1;
        private static final int MOST_ROUNDS = HEADS * HIGH + 1;

        private final Ints rises = new Ints(HEADS);
        private final Ints lasting = new Ints(HEADS);
        private final Longs mostSteps = new Longs(HEADS);
        private final Longs mostToPop = new Longs(HEADS * MOST_STATES);
        private final Longs stepsTo = new Longs(MOST_STATES);
        private final Longs stepsToNext = new Longs(MOST_STATES);
        private final Costs pops;
        private Program program;
        private int outBits = 0;

        Heads(Program program, Costs pops) {
            this.program = program;
            this.pops = pops;
        }

        void lookAt(Program now, int nowOut) {
            program = now;
            outBits = nowOut;
        }

        private static int headOf(int p, int g) {
            return p * MOST_SIGNS + g;
        }

        private int headOfRule(int r) {
            return headOf(program.ofRule(r, RULE_STATE), program.ofRule(r, RULE_SIGN));
        }

        private boolean canPop(int p, int g, int q) {
            return pops.edge(p, g, q) < FAR;
        }

        /** The HEAD on top behind a RULE (i NONE), or on its second SIGN with STATE i; NONE: none. */
        private int headBehind(int r, int i) {
            int first = program.ofRule(r, RULE_FIRST);
            int second = program.ofRule(r, RULE_SECOND);
            int to = program.ofRule(r, RULE_TO);
            if (i == NONE) {
                return first == NONE ? NONE : headOf(to, first);
            }
            return second != NONE && canPop(to, first, i) ? headOf(i, second) : NONE;
        }

        int riseOf(int p, int g) {
            int rise = rises.get(headOf(p, g));
            return rise >= HIGH ? NONE : rise;
        }

        void findRises() {
            rises.fill(1);
            boolean changes = true;
            for (int round = 0; changes && round < MOST_ROUNDS; round++) {
                changes = false;
                for (int r = 0; r < program.rules; r++) {
                    if (program.isIn(r, outBits) && raisesBy(r)) {
                        changes = true;
                    }
                }
            }
        }

        private boolean raisesBy(int r) {
            int most = 1;
            for (int i = NONE; i < program.states; i++) {
                int head = headBehind(r, i);
                if (head != NONE) {
                    int below = i == NONE ? program.ofRule(r, RULE_COUNT) - 1 : 0;
                    most = Math.max(most, rises.get(head) + below);
                }
            }
            most = Math.min(most, HIGH);
            if (most <= rises.get(headOfRule(r))) {
                return false;
            }
            rises.set(headOfRule(r), most);
            return true;
        }

        int highestFrom(Place place) {
            int most = place.height;
            int reached = 1 << place.state;
            for (int level = place.height - 1; level >= 0; level--) {
                int sign = place.signAt(level);
                for (int q = 0; q < program.states; q++) {
                    if ((reached >>> q & 1) == 1) {
                        int rise = riseOf(q, sign);
                        if (rise == NONE) {
                            return NONE;
                        }
                        most = Math.max(most, level + rise);
                    }
                }
                reached = reachedBelow(reached, sign);
            }
            return most;
        }

        private int reachedBelow(int reached, int sign) {
            int below = 0;
            for (int p = 0; p < program.states; p++) {
                for (int q = 0; (reached >>> p & 1) == 1 && q < program.states; q++) {
                    if (canPop(p, sign, q)) {
                        below |= 1 << q;
                    }
                }
            }
            return below;
        }

        boolean isLasting(int p, int g) {
            return lasting.get(headOf(p, g)) == 1;
        }

        /** A HEAD LASTS, if it leads to one that LASTS: those that do not are taken out one by one. */
        void findLasting() {
            lasting.fill(1);
            boolean changes = true;
            for (int round = 0; changes && round <= HEADS; round++) {
                changes = false;
                for (int head = 0; head < HEADS; head++) {
                    if (lasting.get(head) == 1 && !leadsToLasting(head)) {
                        lasting.set(head, 0);
                        changes = true;
                    }
                }
            }
        }

        private boolean leadsToLasting(int head) {
            for (int r = 0; r < program.rules; r++) {
                if (program.isIn(r, outBits) && headOfRule(r) == head && goesOnToLasting(r)) {
                    return true;
                }
            }
            return false;
        }

        private boolean goesOnToLasting(int r) {
            for (int i = NONE; i < program.states; i++) {
                int head = headBehind(r, i);
                if (head != NONE && lasting.get(head) == 1) {
                    return true;
                }
            }
            return false;
        }

        boolean lastsFrom(Place place) {
            int reached = 1 << place.state;
            for (int level = place.height - 1; level >= 0; level--) {
                int sign = place.signAt(level);
                for (int q = 0; q < program.states; q++) {
                    if ((reached >>> q & 1) == 1 && isLasting(q, sign)) {
                        return true;
                    }
                }
                reached = reachedBelow(reached, sign);
            }
            return false;
        }

        /** Of HEADS that do not LAST; these lead to others alone, so each round settles some. */
        void findMostSteps() {
            mostSteps.fill(0);
            mostToPop.fill(NONE);
            boolean changes = true;
            for (int round = 0; changes && round <= HEADS; round++) {
                changes = false;
                for (int r = 0; r < program.rules; r++) {
                    boolean counts = program.isIn(r, outBits) && lasting.get(headOfRule(r)) == 0;
                    if (counts && lengthensBy(r)) {
                        changes = true;
                    }
                }
            }
        }

        private boolean lengthensBy(int r) {
            boolean changes = false;
            long most = 1;
            for (int i = NONE; i < program.states; i++) {
                int head = headBehind(r, i);
                if (head != NONE) {
                    long ahead = i == NONE ? 0 : toPopFirst(r, i);
                    most = Math.max(most, Longs.sum(Longs.sum(1, ahead), mostSteps.get(head)));
                }
            }
            int head = headOfRule(r);
            if (most > mostSteps.get(head)) {
                mostSteps.set(head, most);
                changes = true;
            }
            for (int q = 0; q < program.states; q++) {
                long toPop = toPopBy(r, q);
                if (toPop > mostToPop.get(head * MOST_STATES + q)) {
                    mostToPop.set(head * MOST_STATES + q, toPop);
                    changes = true;
                }
            }
            return changes;
        }

        private long toPop(int p, int g, int q) {
            return mostToPop.get(headOf(p, g) * MOST_STATES + q);
        }

        private long toPopFirst(int r, int q) {
            long steps = toPop(program.ofRule(r, RULE_TO), program.ofRule(r, RULE_FIRST), q);
            return Math.max(0, steps);
        }

        /** The most STEPS by which a RULE's HEAD, by that RULE at first, is popped to a STATE; NONE: not told yet. */
        private long toPopBy(int r, int q) {
            int to = program.ofRule(r, RULE_TO);
            int first = program.ofRule(r, RULE_FIRST);
            int second = program.ofRule(r, RULE_SECOND);
            if (first == NONE) {
                return to == q ? 1 : NONE;
            }
            if (second == NONE) {
                return joined(0, toPop(to, first, q));
            }
            long most = NONE;
            for (int s = 0; s < program.states; s++) {
                most = Math.max(most, joined(toPop(to, first, s), toPop(s, second, q)));
            }
            return most;
        }

        private static long joined(long a, long b) {
            return a < 0 || b < 0 ? NONE : Longs.sum(1, Longs.sum(a, b));
        }

        long mostStepsFrom(Place place) {
            long most = 0;
            stepsTo.fill(NONE);
            stepsTo.set(place.state, 0);
            for (int level = place.height - 1; level >= 0; level--) {
                int sign = place.signAt(level);
                stepsToNext.fill(NONE);
                for (int q = 0; q < program.states; q++) {
                    long steps = stepsTo.get(q);
                    if (steps >= 0) {
                        most = Math.max(most, Longs.sum(steps, mostSteps.get(headOf(q, sign))));
                        goBelow(q, sign, steps);
                    }
                }
                for (int q = 0; q < program.states; q++) {
                    stepsTo.set(q, stepsToNext.get(q));
                }
            }
            return most;
        }

        private void goBelow(int p, int sign, long steps) {
            for (int q = 0; q < program.states; q++) {
                long toPop = toPop(p, sign, q);
                if (toPop >= 0) {
                    stepsToNext.set(q, Math.max(stepsToNext.get(q), Longs.sum(steps, toPop)));
                }
            }
        }
    }

    /** The MACHINES of all STATES in one table, and of one STATE the NODES by their numbers. */
    private static final class Machines {
        /**
         * A set of net nodes is told by the set of STATES two SIGNS ago, these two SIGNS and whether
         * the bottom node is in it: 32 * 6 * 6 * 2. The sets of shorter words, 5 + 5 * 6, and the one
         * of ALL come to these.
         */
        private static final int MOST_SETS = 2340;
        private static final int FIRST_ROOM = 64;
        private static final int BUCKETS = 256;

        private final Ints moves = new Ints(Costs.NODES * MOST_SIGNS);
        private final Ints buckets = new Ints(BUCKETS);
        private final Ints sets = new Ints(FIRST_ROOM);
        private final Ints chain = new Ints(FIRST_ROOM);
        private final Ints table = new Ints(FIRST_ROOM * MOST_SIGNS);
        private Ints kinds = new Ints(FIRST_ROOM);
        private Ints finerKinds = new Ints(FIRST_ROOM);
        private final Ints numbers = new Ints(FIRST_ROOM);
        private final Ints order = new Ints(FIRST_ROOM);
        private final Ints parents = new Ints(FIRST_ROOM);
        private final Longs words = new Longs(FIRST_ROOM);
        private final Longs longerWords = new Longs(FIRST_ROOM);
        private int room = FIRST_ROOM;
        private int goodNodes = 0;
        private int signs = 0;
        private int count = 0;
        private int numbered = NONE;
        int nodes = 0;

        void build(Program program, Costs costs) {
            signs = program.signs;
            count = 0;
            numbered = NONE;
            readMoves(costs);
            buckets.fill(NONE);
            for (int p = 0; p < program.states; p++) {
                setNumber(1 << p);
            }
            for (int i = 0; i < count && i < MOST_SETS; i++) {
                for (int g = 0; g < signs; g++) {
                    table.set(i * MOST_SIGNS + g, setNumber(setBehind(sets.get(i), g)));
                }
            }
        }

        private void readMoves(Costs costs) {
            goodNodes = 0;
            for (int node = 0; node < Costs.NODES; node++) {
                if (costs.left(0, node) < FAR) {
                    goodNodes |= 1 << node;
                }
                for (int g = 0; g < signs; g++) {
                    int targets = 0;
                    for (int target = 0; target < Costs.NODES; target++) {
                        if (costs.edge(node, g, target) < FAR) {
                            targets |= 1 << target;
                        }
                    }
                    moves.set(node * MOST_SIGNS + g, targets);
                }
            }
        }

        private int setBehind(int set, int g) {
            int behind = 0;
            for (int node = 0; node < Costs.NODES; node++) {
                if ((set >>> node & 1) == 1) {
                    behind |= moves.get(node * MOST_SIGNS + g);
                }
            }
            // With ALL in it a set tells every STACK, so what else is in it need not be known.
            int all = 1 << Costs.ALL;
            return (behind & all) != 0 ? all : behind;
        }

        private int setNumber(int set) {
            int bucket = bucketOf(set);
            int i = buckets.get(bucket);
            for (int seen = 0; seen < count && i != NONE; seen++) {
                if (sets.get(i) == set) {
                    return i;
                }
                i = chain.get(i);
            }
            if (count >= MOST_SETS) {
                return NONE;
            }
            if (count >= room) {
                widen();
            }
            sets.set(count, set);
            chain.set(count, buckets.get(bucket));
            buckets.set(bucket, count);
            count++;
            return count - 1;
        }

        private static int bucketOf(int value) {
            int mixed = value * 0x9E3779B1;
            return mixed >>> 24 & BUCKETS - 1;
        }

        private void widen() {
            room = room * 2;
            sets.widen(room);
            chain.widen(room);
            table.widen(room * MOST_SIGNS);
            kinds.widen(room);
            finerKinds.widen(room);
            numbers.widen(room);
            order.widen(room);
            parents.widen(room);
            words.widen(room);
            longerWords.widen(room);
        }

        private boolean isGoodSet(int i) {
            return (sets.get(i) & goodNodes) != 0;
        }

        /** Sets of one kind tell the same STACKS: kinds are parted until no next parts them. */
        void sortOut() {
            for (int i = 0; i < count; i++) {
                kinds.set(i, isGoodSet(i) ? 1 : 0);
            }
            int before = 0;
            int after = partKinds();
            for (int round = 0; round < count && after > before; round++) {
                before = after;
                after = partKinds();
            }
        }

        private int partKinds() {
            int found = 0;
            buckets.fill(NONE);
            for (int i = 0; i < count; i++) {
                int bucket = bucketOf(mixOf(i));
                int alike = findAlike(i, buckets.get(bucket));
                if (alike == NONE) {
                    finerKinds.set(i, found);
                    found++;
                    chain.set(i, buckets.get(bucket));
                    buckets.set(bucket, i);
                } else {
                    finerKinds.set(i, finerKinds.get(alike));
                }
            }
            Ints former = kinds;
            kinds = finerKinds;
            finerKinds = former;
            return found;
        }

        private int findAlike(int i, int first) {
            int j = first;
            for (int seen = 0; seen < count && j != NONE; seen++) {
                if (areAlike(i, j)) {
                    return j;
                }
                j = chain.get(j);
            }
            return NONE;
        }

        private int kindBehind(int i, int g) {
            return kinds.get(table.get(i * MOST_SIGNS + g));
        }

        private int mixOf(int i) {
            int mix = kinds.get(i);
            for (int g = 0; g < signs; g++) {
                mix = mix * 31 + kindBehind(i, g);
            }
            return mix;
        }

        private boolean areAlike(int i, int j) {
            if (kinds.get(i) != kinds.get(j)) {
                return false;
            }
            for (int g = 0; g < signs; g++) {
                if (kindBehind(i, g) != kindBehind(j, g)) {
                    return false;
                }
            }
            return true;
        }

        /** The sets of the STATES alone are the first ones. */
        boolean startAlike(int p, int q) {
            return kinds.get(p) == kinds.get(q);
        }

        void numberFrom(int p) {
            if (numbered == p) {
                return;
            }
            numbered = p;
            numbers.fill(NONE);
            nodes = 0;
            addNode(p, NONE);
            for (int k = 0; k < nodes && k < MOST_SETS; k++) {
                for (int g = 0; g < signs; g++) {
                    int set = table.get(order.get(k) * MOST_SIGNS + g);
                    if (numbers.get(kinds.get(set)) == NONE) {
                        addNode(set, k * MOST_SIGNS + g);
                    }
                }
            }
        }

        private void addNode(int set, int parent) {
            numbers.set(kinds.get(set), nodes);
            order.set(nodes, set);
            parents.set(nodes, parent);
            nodes++;
        }

        boolean hasNode(int k) {
            return k >= 0 && k < nodes;
        }

        int nodeBehind(int k, int g) {
            return numbers.get(kindBehind(order.get(k), g));
        }

        boolean isGoodNode(int k) {
            return isGoodSet(order.get(k));
        }

        long countWords(int length) {
            for (int k = 0; k < nodes; k++) {
                words.set(k, k == 0 ? 1 : 0);
            }
            for (int i = 0; i < length; i++) {
                lengthenWords();
            }
            long all = 0;
            for (int k = 0; k < nodes; k++) {
                if (isGoodNode(k)) {
                    all += words.get(k);
                }
            }
            return all;
        }

        private void lengthenWords() {
            for (int k = 0; k < nodes; k++) {
                longerWords.set(k, 0);
            }
            for (int k = 0; k < nodes; k++) {
                for (int g = 0; g < signs; g++) {
                    int behind = nodeBehind(k, g);
                    longerWords.set(behind, longerWords.get(behind) + words.get(k));
                }
            }
            for (int k = 0; k < nodes; k++) {
                words.set(k, longerWords.get(k));
            }
        }

        /** NODES are numbered by their shortest words, like ones by SIGNS, so the first good one has the shortest. */
        int firstGoodNode() {
            for (int k = 0; k < nodes; k++) {
                if (isGoodNode(k)) {
                    return k;
                }
            }
            return NONE;
        }

        private int parentOf(int k) {
            return parents.get(k) / MOST_SIGNS;
        }

        int depthOf(int node) {
            int depth = 0;
            for (int k = node; k > 0 && depth < nodes; k = parentOf(k)) {
                depth++;
            }
            return depth;
        }

        /** The SIGN by which the NODE so many NODES ahead of one was come to. */
        int signOnTheWay(int node, int ahead) {
            int k = node;
            for (int i = 0; i < ahead; i++) {
                k = parentOf(k);
            }
            return k > 0 ? parents.get(k) % MOST_SIGNS : NONE;
        }
    }
}
