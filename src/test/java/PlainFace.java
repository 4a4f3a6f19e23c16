import java.util.List;

/** The face of the document before the plain mender: what each call answers, and which it refuses. */
final class PlainFace {
    /** What node and test answer here where they throw. */
    static final int THROWS = 1234567;

    private final PlainMender plain = new PlainMender();
    private final StringBuilder tape = new StringBuilder();

    int feed(int... numbers) {
        if (tape.length() + 20 > 600) {
            return -1;
        }
        for (int number : numbers) {
            for (int shift = 24; shift >= 0; shift -= 8) {
                tape.append((char) (number >> shift & 255));
            }
        }
        return tape.length();
    }

    private String cut(int n) {
        String text = tape.substring(0, n);
        tape.setLength(0);
        return text;
    }

    int program(int n) {
        return n < 0 || n > tape.length() ? -1 : plain.program(cut(n));
    }

    int tests(int n) {
        return n < 0 || n > tape.length() ? -1 : plain.tests(cut(n));
    }

    private boolean isNode(int node) {
        return node >= 0 && node < plain.nodes.size();
    }

    private boolean isStatement(int node) {
        return isNode(node) && plain.nodes.get(node).kind < 4;
    }

    private boolean isTest(int test) {
        return test >= 0 && test < plain.tests.size();
    }

    private boolean isRun(int test) {
        return isTest(test) && !plain.nodes.isEmpty();
    }

    private static int pick(int what, int otherwise, int... answers) {
        return what >= 0 && what < answers.length ? answers[what] : otherwise;
    }

    int node(int node, int what) {
        if (!isNode(node)) {
            return THROWS;
        }
        PlainMender.Node n = plain.nodes.get(node);
        return pick(what, THROWS, n.kind, n.value, plain.nodes.indexOf(n.parent), plain.nodes.indexOf(n.statement), plain.state(n));
    }

    int test(int test, int what) {
        return isTest(test) ? pick(what, THROWS, plain.tests.get(test)) : THROWS;
    }

    int run(int test, int what) {
        if (!isRun(test)) {
            return -1;
        }
        int[] row = plain.tests.get(test);
        PlainMender.Outcome end = plain.run(row);
        return pick(what, -1, end.how, end.result, end.steps.size(), plain.passes(row) ? 1 : 0);
    }

    int done(int test, int node) {
        if (!isRun(test) || !isStatement(node)) {
            return -1;
        }
        PlainMender.Node statement = plain.nodes.get(node);
        return (int) plain.run(plain.tests.get(test)).steps.stream().filter(s -> s == statement).count();
    }

    int trace(int test, int k) {
        if (!isRun(test)) {
            return -1;
        }
        List<PlainMender.Node> steps = plain.run(plain.tests.get(test)).steps;
        return k >= 0 && k < steps.size() ? plain.nodes.indexOf(steps.get(k)) : -1;
    }

    int spectrum(int node, int what) {
        return isStatement(node) ? pick(what, -1, plain.spectrum(plain.nodes.get(node))) : -1;
    }

    int score(int rule, int node, int what) {
        if (rule < 0 || rule > 2 || !isStatement(node)) {
            return -1;
        }
        long[] score = plain.score(rule, plain.nodes.get(node));
        return pick(what, -1, (int) score[0], (int) score[1]);
    }

    int suspect(int rule, int k) {
        if (rule < 0 || rule > 2 || k < 0 || k >= plain.statements().size()) {
            return -1;
        }
        return plain.nodes.indexOf(plain.ranked(rule).get(k));
    }

    int changes(int node) {
        return isNode(node) ? plain.made(plain.nodes.get(node)).size() : -1;
    }

    int change(int node, int change, int what) {
        if (change < 0 || change >= changes(node)) {
            return -200;
        }
        PlainMender.Node n = plain.nodes.get(node);
        int[] with = plain.with(n, change);
        boolean mend = plain.somethingToMend() && with[0] == plain.all(0);
        return pick(what, -200, with[0], with[1], mend ? 1 : 0, plain.made(n).get(change));
    }

    private List<int[]> mends() {
        return plain.nodes.isEmpty() ? List.of() : plain.mends();
    }

    int mend(int k, int what) {
        List<int[]> mends = mends();
        if (k == -1) {
            return mends.size();
        }
        return k >= 0 && k < mends.size() ? pick(what, -1, mends.get(k)) : -1;
    }

    int unlike() {
        List<int[]> mends = mends();
        return (int) mends.stream().filter(mend -> mend[4] == mends.indexOf(mend)).count();
    }

    int best() {
        List<int[]> mends = mends();
        int best = -1;
        for (int k = 0; k < mends.size(); k++) {
            best = best < 0 || mends.get(k)[2] > mends.get(best)[2] ? k : best;
        }
        return best;
    }

    int pair(int what) {
        return what < 0 || what > 4 ? -1 : plain.nodes.isEmpty() ? -2 : plain.pair()[what];
    }

    int values(int node, int what) {
        boolean number = isNode(node) && plain.nodes.get(node).kind == 4 && !plain.gone(plain.nodes.get(node));
        return number ? pick(what, -200, plain.values(plain.nodes.get(node))) : -200;
    }

    int forced(int node, boolean so) {
        boolean condition = isStatement(node) && plain.nodes.get(node).kind % 3 != 0 && !plain.gone(plain.nodes.get(node));
        return condition ? plain.forced(plain.nodes.get(node), so) : -1;
    }

    int flip(int test) {
        return isRun(test) ? plain.flip(plain.tests.get(test)) : -1;
    }

    int take(int node, int change) {
        return plain.take(node, change);
    }

    int undo() {
        return plain.undo();
    }

    int count(int what) {
        int[] counts = plain.counts();
        counts[8] = tape.length();
        return pick(what, -1, counts);
    }
}
