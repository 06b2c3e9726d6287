/** Promises 15 to 25 on made-up SYSTEMS, beside a search through their PLACES one by one. */
public final class SearchTest {
    private static final int PLACES = 1500;
    private static final Check CHECK = new Check("SearchTest");
    private static int whole = 0;
    private static int searches = 0;

    public static void main(String[] args) {
        Sample.Row row = new Sample.Row(20261119);
        for (int i = 0; i < 1500; i++) {
            Sample sample = i % 3 == 0 ? new Sample(row, 5, 6, 14, 4) : new Sample(row, 3, 3, 8, 3);
            boolean someAreOut = row.below(4) == 0 && sample.rules.size() > 0;
            int outBits = someAreOut ? row.below(1 << sample.rules.size()) : 0;
            int state = row.below(sample.states);
            String stack = sample.stack(4);
            ofNow(sample, outBits, state, stack);
            if (i % 5 == 0) {
                ofHeads(sample, outBits);
            }
        }
        CHECK.due("enough searches were whole", whole > searches / 4, true);
        CHECK.close();
    }

    private static CallSteps made(Sample sample, int outBits) {
        CallSteps x = Check.made(sample.text());
        for (int r = 0; r < sample.rules.size(); r++) {
            if ((outBits >> r & 1) == 1) {
                x.out(r, true);
            }
        }
        return x;
    }

    private static void allowed(String what, boolean is, long answer, Sample sample, String place) {
        CHECK.due(what + " " + answer + " can be, of " + sample.text() + " from " + place, is, true);
    }

    private static Search search(Sample sample, int outBits, String place) {
        Search search = new Search(sample, outBits, place, PLACES);
        searches++;
        whole += search.isWhole ? 1 : 0;
        return search;
    }

    private static void ofNow(Sample sample, int outBits, int state, String stack) {
        CallSteps x = made(sample, outBits);
        Check.at(x, Sample.placeText(state, stack));
        String place = state + stack;
        Search search = search(sample, outBits, place);
        long cost = x.cost();
        allowed("15 cost", search.allows(cost, sample::isAtGoal), cost, sample, place);
        CHECK.due("10 at a goal", x.now(2) == 1, sample.isAtGoal(place));
        long stuck = x.stuck();
        allowed("25 stuck", search.allows(stuck, search::isStuck), stuck, sample, place);
        for (int p = 0; p < sample.states; p++) {
            for (int g = -1; g < sample.signs; g++) {
                long comes = x.comes(p, g);
                String head = g < 0 ? "" + p : "" + p + g;
                boolean nothing = g < 0;
                boolean is = search.allows(comes, some -> nothing ? some.equals(head) : some.startsWith(head));
                allowed("19 comes " + p + " " + g, is, comes, sample, place);
            }
        }
        goingOn(sample, x.height(), x.endless(), x.longest(), search, place);
        matters(sample, x, outBits, place, cost);
        way(sample, x, outBits, place, cost);
    }

    private static void goingOn(Sample sample, long height, long endless, long longest, Search search, String place) {
        if (search.isWhole) {
            long steps = search.longest(place);
            allowed("20 height", height == search.highest(), height, sample, place);
            allowed("23 endless", endless == (steps < 0 ? 1 : 0), endless, sample, place);
            allowed("24 longest", longest == steps, longest, sample, place);
        } else {
            allowed("20 height", height == -1 || height >= search.highest(), height, sample, place);
            allowed("23 endless", height == -1 ? endless == 1 : true, endless, sample, place);
            allowed("24 longest", (longest == -1) == (endless == 1), longest, sample, place);
        }
    }

    private static void matters(Sample sample, CallSteps x, int outBits, String place, long cost) {
        for (int r = 0; r < sample.rules.size(); r++) {
            long matters = x.matters(r);
            if (cost < 0 || (outBits >> r & 1) == 1) {
                allowed("18 matters " + r, matters == -2, matters, sample, place);
                continue;
            }
            Search search = new Search(sample, outBits | 1 << r, place, PLACES / 3);
            long then = matters < 0 ? matters : cost + matters;
            allowed("18 matters " + r, search.allows(then, sample::isAtGoal), matters, sample, place);
        }
    }

    /** Each STEP by the least RULE behind which an object of its own tells the COST that is left. */
    private static void way(Sample sample, CallSteps x, int outBits, String start, long cost) {
        if (cost < 0) {
            CHECK.due("16 no way", x.way(-1), -1);
            return;
        }
        Renewed y = new Renewed(sample.text(), outBits);
        String place = start;
        long left = cost;
        int steps = 0;
        while (left > 0 && steps < 40) {
            int least = -1;
            for (int r = 0; r < sample.rules.size() && least < 0; r++) {
                String next = (outBits >> r & 1) == 1 ? null : sample.behind(place, r);
                if (next == null || next.length() > 41) {
                    continue;
                }
                long behind = y.costOf(Sample.placeText(next.charAt(0) - '0', next.substring(1)));
                if (behind >= 0 && behind == left - sample.rules.get(r)[3]) {
                    least = r;
                }
            }
            allowed("16 way " + steps, x.way(steps) == least, x.way(steps), sample, start);
            if (least < 0) {
                return;
            }
            left -= sample.rules.get(least)[3];
            place = sample.behind(place, least);
            steps++;
        }
        if (left == 0) {
            allowed("16 way's steps", x.way(-1) == steps, x.way(-1), sample, start);
            CHECK.due("16 behind the last", x.way(steps), -1);
        }
    }

    private static void ofHeads(Sample sample, int outBits) {
        CallSteps x = made(sample, outBits);
        for (int p = 0; p < sample.states; p++) {
            for (int g = 0; g < sample.signs; g++) {
                String place = "" + p + g;
                Search search = search(sample, outBits, place);
                for (int q = 0; q < sample.states; q++) {
                    long pops = x.pops(p, g, q);
                    String popped = "" + q;
                    allowed("17 pops to " + q, search.allows(pops, popped::equals), pops, sample, place);
                }
                long rises = x.rises(p, g);
                long lasts = x.lasts(p, g);
                if (search.isWhole) {
                    allowed("21 rises", rises == search.highest(), rises, sample, place);
                    allowed("22 lasts", (lasts == 1) == (search.longest(place) < 0), lasts, sample, place);
                } else {
                    allowed("21 rises", rises == -1 || rises >= search.highest(), rises, sample, place);
                    allowed("22 lasts", rises == -1 ? lasts == 1 : true, lasts, sample, place);
                }
            }
        }
    }
}
