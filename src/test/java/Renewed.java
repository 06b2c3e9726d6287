/** An object that only answers what is asked: made anew ahead of its 512th call, behind which nothing is promised. */
final class Renewed {
    private static final int MOST_CALLS = 512;

    private final String text;
    private final int outBits;
    private CallSteps object;
    private int calls;

    Renewed(String text, int outBits) {
        this.text = text;
        this.outBits = outBits;
        make();
    }

    private void make() {
        object = Check.made(text);
        // Up to forty feeds, what tells the text, and a call for each RULE.
        calls = 60;
        for (int r = 0; r < object.about(2); r++) {
            if ((outBits >> r & 1) == 1) {
                object.out(r, true);
            }
        }
    }

    /** The object, for so many calls at most. */
    CallSteps forCalls(int more) {
        calls += more;
        if (calls > MOST_CALLS) {
            make();
            calls += more;
        }
        return object;
    }

    CallSteps forOne() {
        return forCalls(1);
    }

    /** COST of a PLACE. */
    long costOf(String place) {
        // Five feeds at most tell a STACK of forty.
        CallSteps x = forCalls(12);
        Check.at(x, place);
        return x.cost();
    }
}
