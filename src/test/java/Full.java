/** A SYSTEM with as much of all as can be, in which the last STATE, SIGN, RULE and GOAL count. */
final class Full {
    static final String NAMES = "state p;state q;state r;state s;state t;sign a;sign b;sign c;sign d;sign e;sign f;";
    static final String RULES = "rule p a to p;rule p b to p a a;rule p c to p b b;rule p d to p c c;rule p e to p d d;rule p f to p e e;"
        + "rule q a to r b cost 99;rule r b to s c;rule s c to t d;rule t d to t;rule t e to t e;rule t a to t f f;"
        + "rule s f to s f f cost 50;rule t f to t cost 99;";
    static final String GOALS = "goal p;goal q a b c;goal r more;goal t f f f;";
    static final String TEXT = NAMES + RULES + GOALS;

    private Full() {
    }

    /** Some blanks between, so that the text has so many bytes. */
    static String padded(String first, int length, String last) {
        return first + " ".repeat(length - first.length() - last.length()) + last;
    }

    /** A STATE's name with so many SIGNS a. */
    static String high(String state, int signs) {
        return state + " a".repeat(signs);
    }
}
