import java.util.ArrayList;
import java.util.List;

/** Promises 26 to 31 on made-up SYSTEMS, beside COSTS of all short STACKS and of some long ones. */
public final class WordsTest {
    private static final Check CHECK = new Check("WordsTest");

    public static void main(String[] args) {
        Sample.Row row = new Sample.Row(4711);
        for (int i = 0; i < 1600; i++) {
            Sample sample = i % 2 == 0 ? new Sample(row, 3, 2, 10, 3) : new Sample(row, 5, 6, 14, 9);
            if (sample.goals.isEmpty()) {
                continue;
            }
            int out = row.below(30);
            Renewed x = new Renewed(sample.text(), 1 << out);
            List<List<String>> told = new ArrayList<>();
            for (int p = 0; p < sample.states; p++) {
                told.add(shortStacks(sample, x, p));
                longStacks(sample, x, p);
                isLeast(sample.signs, sample.text(), x, p);
            }
            for (int p = 0; p < sample.states; p++) {
                for (int q = 0; q < sample.states; q++) {
                    isSame(sample, x, p, q, told.get(p).equals(told.get(q)));
                }
            }
        }
        for (String text : MANY_NODES) {
            manyNodes(text, row);
        }
        for (int i = 0; i < PARTED_LATE.length; i++) {
            partedLate(PARTED_LATE[i], NODES_OF_THESE[i], row);
        }
        CHECK.close();
    }

    /** SYSTEMS with MACHINES of more than two hundred NODES. */
    private static final String[] MANY_NODES = {
        "rule q c to s d d;rule p c to t;rule p f to s;rule t d to s;rule t f to p;rule p d to q;rule t c to r;rule s c to s;rule q c to p;"
            + "rule s d to t c;rule q d to t;rule r c to q;rule q f to r;rule r c to p;goal r d c f;goal r f d d;goal s f d b;goal r d d c;",
        "rule s c to q;rule p b to s a;rule q c to t;rule t a to r;rule r b to p;rule t b to r;rule p a to p;rule q a to t;rule t a to q;"
            + "rule t c to s;rule s b to s;rule r a to s;rule q b to s c c;rule p a to q;goal s a c c;goal r c c a more;goal p c c f;goal s a a a;"};

    /** SYSTEMS whose NODES are told apart only by what is read far behind them. */
    private static final String[] PARTED_LATE = {
        "rule q d to p a;rule p d to q;rule q b to p;rule q a to q;rule q d to p;rule p b to q a c;rule q d to q;rule p a to p;rule q d to q e;"
            + "rule p c to p d;rule p d to q c d;rule q b to q;rule p c to q e;goal q d more;goal p d c;goal p a e;",
        "rule q a to q d a;rule p b to q b;rule q d to p a a;rule p f to p;rule r f to p e;rule p f to q b f;rule p a to q;rule r b to p;"
            + "rule r b to r c;rule q b to p e;rule q a to r c;goal q a b a;goal q e a d more;goal p;"};
    private static final int[][] NODES_OF_THESE = {{9, 7, 1, 1, 1}, {9, 8, 10, 1, 1}};

    private static void partedLate(String lines, int[] nodes, Sample.Row row) {
        String text = "state p;state q;state r;state s;state t;sign a;sign b;sign c;sign d;sign e;sign f;" + lines;
        Renewed x = new Renewed(text, 0);
        for (int p = 0; p < nodes.length; p++) {
            CHECK.due("26 nodes of " + p + " of " + text, x.forOne().machine(p), nodes[p]);
            isLeast(6, text, x, p);
            for (int i = 0; i < 300; i++) {
                StringBuilder stack = new StringBuilder();
                for (int n = row.below(8); n > 0; n--) {
                    stack.append((char) ('0' + row.below(6)));
                }
                CHECK.due("28 of " + text + " " + p + " " + stack, x.forOne().good(p, node(x, p, stack.toString())), hasCost(x, p, stack.toString()) ? 1 : 0);
            }
        }
    }

    private static void manyNodes(String lines, Sample.Row row) {
        String text = "state p;state q;state r;state s;state t;sign a;sign b;sign c;sign d;sign e;sign f;" + lines;
        Renewed x = new Renewed(text, 0);
        int most = 0;
        for (int p = 0; p < 5; p++) {
            most = Math.max(most, x.forOne().machine(p));
            isLeast(6, text, x, p);
            for (int n = 0; n <= 5; n++) {
                CHECK.due("29 of many " + p + " " + n, x.forOne().stacks(p, n), goodWords(x, p, 0, n));
            }
            isShortest(x, p);
            for (int i = 0; i < 1000; i++) {
                StringBuilder stack = new StringBuilder();
                for (int n = row.below(12); n > 0; n--) {
                    stack.append("01235".charAt(row.below(5)));
                }
                CHECK.due("28 of many " + p + " " + stack, x.forOne().good(p, node(x, p, stack.toString())), hasCost(x, p, stack.toString()) ? 1 : 0);
            }
        }
        CHECK.due("26 many nodes", most > 200, true);
    }

    private static long goodWords(Renewed x, int p, int k, int n) {
        if (n == 0) {
            return x.forOne().good(p, k);
        }
        long count = 0;
        for (int g = 0; g < 6; g++) {
            count += goodWords(x, p, x.forOne().next(p, k, g), n - 1);
        }
        return count;
    }

    /** All words of six SIGNS by length, then by SIGNS, until one is good. */
    private static void isShortest(Renewed x, int p) {
        List<String> words = List.of("");
        for (int n = 0; n < 7; n++) {
            List<String> longer = new ArrayList<>();
            for (String word : words) {
                if (x.forOne().good(p, node(x, p, word)) == 1) {
                    CHECK.due("30 of many " + p, x.forOne().shortest(p, -1), n);
                    for (int i = 0; i < n; i++) {
                        CHECK.due("30 of many " + p + " " + i, x.forOne().shortest(p, i), word.charAt(i) - '0');
                    }
                    return;
                }
                for (int g = 0; g < 6; g++) {
                    longer.add(word + g);
                }
            }
            words = longer;
        }
        CHECK.due("30 long or none " + p, x.forOne().shortest(p, -1) == -1 || x.forOne().shortest(p, -1) > 6, true);
    }

    private static int node(Renewed x, int p, String stack) {
        int k = 0;
        for (int i = 0; i < stack.length(); i++) {
            k = x.forOne().next(p, k, stack.charAt(i) - '0');
        }
        return k;
    }

    private static boolean hasCost(Renewed x, int p, String stack) {
        return x.costOf(Sample.placeText(p, stack)) >= 0;
    }

    /** All STACKS of up to some SIGNS with which the STATE has a COST. */
    private static List<String> shortStacks(Sample sample, Renewed x, int p) {
        int most = sample.signs == 1 ? 8 : sample.signs == 2 ? 6 : sample.signs < 5 ? 4 : 3;
        List<String> told = new ArrayList<>();
        List<String> words = List.of("");
        for (int n = 0; n <= most; n++) {
            int count = 0;
            List<String> longer = new ArrayList<>();
            for (String word : words) {
                boolean is = hasCost(x, p, word);
                CHECK.due("28 of " + sample.text() + " " + p + " " + word, x.forOne().good(p, node(x, p, word)), is ? 1 : 0);
                if (is) {
                    count++;
                    told.add(word);
                }
                for (int g = 0; g < sample.signs; g++) {
                    longer.add(word + g);
                }
            }
            CHECK.due("29 of " + sample.text() + " " + p + " " + n, x.forOne().stacks(p, n), count);
            words = longer;
        }
        if (told.isEmpty()) {
            int length = x.forOne().shortest(p, -1);
            CHECK.due("30 longer or none", length == -1 || length > most, true);
        } else {
            String first = told.get(0);
            CHECK.due("30 of " + sample.text() + " " + p, x.forOne().shortest(p, -1), first.length());
            for (int i = 0; i < first.length(); i++) {
                CHECK.due("30 sign of " + sample.text() + " " + p, x.forOne().shortest(p, i), first.charAt(i) - '0');
            }
            CHECK.due("30 behind the last", x.forOne().shortest(p, first.length()), -1);
        }
        return told;
    }

    private static void longStacks(Sample sample, Renewed x, int p) {
        for (int i = 0; i < 20; i++) {
            String stack = sample.stack(i < 10 ? 10 : 40);
            CHECK.due("28 of " + sample.text() + " " + p + " " + stack, x.forOne().good(p, node(x, p, stack)), hasCost(x, p, stack) ? 1 : 0);
        }
    }

    /** Every NODE comes up in its turn, and no two of them tell the same. */
    private static void isLeast(int signs, String text, Renewed x, int p) {
        int nodes = x.forOne().machine(p);
        int known = 1;
        for (int k = 0; k < nodes; k++) {
            for (int g = 0; g < signs; g++) {
                int next = x.forOne().next(p, k, g);
                CHECK.due("26 in turn, of " + text, next >= 0 && next <= known, true);
                known = Math.max(known, next + 1);
            }
        }
        CHECK.due("26 all come up, of " + text, known, nodes);
        CHECK.due("27 no more nodes", x.forOne().next(p, nodes, 0), -1);
        CHECK.due("28 no more nodes", x.forOne().good(p, nodes), -1);
        boolean[][] differ = new boolean[nodes][nodes];
        boolean changes = true;
        while (changes) {
            changes = false;
            for (int k = 0; k < nodes; k++) {
                for (int j = 0; j < k; j++) {
                    boolean is = x.forOne().good(p, k) != x.forOne().good(p, j);
                    for (int g = 0; g < signs && !is; g++) {
                        int a = x.forOne().next(p, k, g);
                        int b = x.forOne().next(p, j, g);
                        is = differ[Math.max(a, b)][Math.min(a, b)];
                    }
                    changes |= is && !differ[k][j];
                    differ[k][j] = is;
                }
            }
        }
        for (int k = 0; k < nodes; k++) {
            for (int j = 0; j < k; j++) {
                CHECK.due("26 nodes " + j + " " + k + " differ, of " + text, differ[k][j], true);
            }
        }
    }

    private static void isSame(Sample sample, Renewed x, int p, int q, boolean shortAlike) {
        boolean alike = x.forOne().machine(p) == x.forOne().machine(q);
        for (int k = 0; alike && k < x.forOne().machine(p); k++) {
            alike = x.forOne().good(p, k) == x.forOne().good(q, k);
            for (int g = 0; alike && g < sample.signs; g++) {
                alike = x.forOne().next(p, k, g) == x.forOne().next(q, k, g);
            }
        }
        CHECK.due("31 of " + sample.text() + " " + p + " " + q, x.forOne().same(p, q), alike ? 1 : 0);
        CHECK.due("31 short ones, of " + sample.text(), !alike || shortAlike, true);
    }
}
