import java.util.ArrayList;
import java.util.List;
import java.util.Random;

/** Random programs and tests, changed at random: all answers are those of the plain mender. */
public final class RandomTest {
    private static final Check CHECK = new Check();
    private static final int ROUNDS = 200;
    private static final String[] SIGNS = {"+", "-", "*", "/", "%", "<", "<=", "==", "!=", ">", ">="};
    private static Random random;
    private static int statements;

    public static void main(String[] args) {
        int rounds = args.length > 1 ? Integer.parseInt(args[1]) : ROUNDS;
        anyPrograms(rounds);
        longRuns(rounds / 2);
        CHECK.end();
    }

    private static void anyPrograms(int rounds) {
        int mends = 0;
        int pairs = 0;
        for (int round = 0; round < rounds; round++) {
            random = new Random(round);
            ProgramMender m = new ProgramMender();
            PlainMender plain = new PlainMender();
            String text = programText();
            both("program " + text, Check.program(m, text), plain.program(text));
            if (plain.nodes.isEmpty()) {
                continue;
            }
            String suite = suiteText(plain);
            both("tests " + suite, Check.tests(m, suite), plain.tests(suite));
            int changes = random.nextInt(4);
            for (int i = 0; i < changes; i++) {
                takeOne(m, plain, "round " + round);
            }
            compare(m, plain, "round " + round + ": " + text + " / " + suite);
            mends += m.mend(-1, 0) > 0 ? 1 : 0;
            pairs += m.pair(0) >= 0 ? 1 : 0;
            if (random.nextBoolean()) {
                both("undo", m.undo(), plain.undo());
                compare(m, plain, "round " + round + " back: " + text + " / " + suite);
            }
            wrongTexts(m, plain, text, suite);
            CHECK.due("nodes of round " + round, m.count(0), plain.nodes.size());
        }
        System.out.println("with mends: " + mends + ", with a pair: " + pairs);
        enough("there were mends", mends, 20, rounds);
        enough("there were pairs", pairs, 20, rounds);
    }

    /** Runs of just about 300 steps: what is changed shortly before, at or behind the 301st matters. */
    private static void longRuns(int rounds) {
        int mends = 0;
        int pairs = 0;
        int unseen = 0;
        for (int round = 0; round < rounds; round++) {
            random = new Random(round);
            ProgramMender m = new ProgramMender();
            PlainMender plain = new PlainMender();
            String text = longProgramText();
            both("program " + text, Check.program(m, text), plain.program(text));
            String suite = longSuiteText(plain);
            both("tests " + suite, Check.tests(m, suite), plain.tests(suite));
            String of = "long round " + round + ": " + text + " / " + suite;
            if (pick(4) == 0) {
                takeOne(m, plain, of);
            }
            compareMends(m, plain, of);
            compareNodes(m, plain, of);
            mends += m.mend(-1, 0) > 0 ? 1 : 0;
            pairs += m.pair(0) >= 0 ? 1 : 0;
            unseen += isMendedUnseen(m) ? 1 : 0;
        }
        System.out.println("long runs with mends: " + mends + ", with a pair: " + pairs + ", where a failing run has not been: " + unseen);
        enough("long runs had mends", mends, 10, 2 * rounds);
        enough("long runs had pairs", pairs, 5, 2 * rounds);
        enough("some were mended where a failing run has not been", unseen, 5, 2 * rounds);
    }

    /** More rounds begin with the same ones, so what these had is there as well; fewer need not have it. */
    private static void enough(String what, int many, int least, int rounds) {
        if (rounds >= ROUNDS) {
            CHECK.due(what, many >= least ? 1 : 0, 1);
        }
    }

    /** A mend in a statement that a failing test has not done. */
    private static boolean isMendedUnseen(ProgramMender m) {
        boolean found = false;
        for (int k = 0; k < m.mend(-1, 0); k++) {
            found |= m.spectrum(m.node(m.mend(k, 0), 3), 2) > 0;
        }
        return found;
    }

    private static void both(String call, int got, int want) {
        CHECK.due(call, got, want);
    }

    private static int pick(int n) {
        return random.nextInt(n);
    }

    // ---- texts

    private static String programText() {
        statements = 0;
        StringBuilder text = new StringBuilder();
        int most = 1 + pick(4);
        for (int i = 0; i < most; i++) {
            text.append(statement(0));
        }
        if (pick(4) > 0) {
            text.append("return ").append(sides(1)).append(";");
        }
        return text.toString();
    }

    private static String longProgramText() {
        String before = pick(3) == 0 ? "" : pick(2) == 0 ? "b = " + pick(3) + ";" : "if y { return " + pick(8) + "; }";
        String loop = pick(2) == 0 ? "while x { x = x - 1; }" : "while a < x { a = a + 1; b = b + y; }";
        String behind = pick(2) == 0 ? shortStatement() : pick(2) == 0 ? "if z { " + shortStatement() + " }" : "";
        String end = pick(3) == 0 ? "" : "return " + (pick(2) == 0 ? pick(8) : "b") + ";";
        String rest = loop + behind + end;
        return before + (pick(3) == 0 ? "if z { " + rest + " } else { " + shortStatement() + " }" : rest);
    }

    private static String shortStatement() {
        return pick(2) == 0 ? "b = " + pick(9) + ";" : "return " + (pick(2) == 0 ? "z" : pick(9)) + ";";
    }

    /** Each x is about the least with which the run hangs; what hangs is mostly due 0, as if it came to its end. */
    private static String longSuiteText(PlainMender plain) {
        List<String> lines = new ArrayList<>();
        int most = 1 + pick(3);
        for (int i = 0; i < most; i++) {
            int[] row = {pick(4), pick(2), pick(3)};
            if (pick(4) > 0) {
                row[0] = leastThatHangs(plain, row) + (pick(2) == 0 ? 0 : pick(3) - 1);
            }
            PlainMender.Outcome end = plain.run(row);
            int due = end.how == 2 ? pick(4) / 3 * pick(4) : pick(3) == 0 ? end.result + 1 : end.result;
            lines.add("test " + row[0] + " " + row[1] + " " + row[2] + " gives " + due + (pick(4) == 0 ? " held" : ""));
        }
        return String.join(";", lines);
    }

    private static int leastThatHangs(PlainMender plain, int[] row) {
        int x = 0;
        while (x < 160 && plain.run(new int[] {x, row[1], row[2]}).how != 2) {
            x++;
        }
        return x;
    }

    private static String statement(int depth) {
        statements++;
        int kind = depth > 2 || statements > 5 ? 0 : pick(5);
        switch (kind) {
            case 0:
            case 1:
                return variable() + "=" + sides(0) + ";";
            case 2:
                return "if " + sides(0) + block(depth) + (pick(2) == 0 ? "" : "else" + block(depth));
            case 3:
                return "while " + variable() + " < " + pick(9) + " { " + variable() + " = " + variable() + " + 1; "
                        + (pick(2) == 0 ? statement(depth + 1) : "") + "}";
            default:
                return pick(3) == 0 ? "return " + sides(0) + ";" : "while " + sides(1) + block(depth);
        }
    }

    private static String block(int depth) {
        StringBuilder text = new StringBuilder(" { ");
        int most = pick(3);
        for (int i = 0; i < most; i++) {
            text.append(statement(depth + 1));
        }
        return text.append("}\n").toString();
    }

    private static String variable() {
        return String.valueOf("xxyyzab".charAt(pick(7)));
    }

    private static String sides(int depth) {
        int kind = depth > 2 ? pick(4) : pick(9);
        if (kind < 2) {
            return variable();
        }
        if (kind < 4) {
            return String.valueOf(pick(3) == 0 ? pick(200) : pick(5));
        }
        if (kind == 4) {
            return "-" + (pick(2) == 0 ? variable() : "(" + sides(depth + 1) + ")");
        }
        String sign = SIGNS[pick(SIGNS.length)];
        if (pick(3) == 0) {
            return "(" + sides(depth + 1) + sign + sides(depth + 2) + ")";
        }
        return depth > 0 && SIGNS[5].compareTo(sign) <= 0 ? variable() + " * " + sides(3)
                : "(" + sides(depth + 1) + ") " + sign + " (" + sides(depth + 1) + ")";
    }

    /** What is due is mostly what the program returns as it is told, so that its changes have mends. */
    private static String suiteText(PlainMender plain) {
        List<String> lines = new ArrayList<>();
        int most = 1 + pick(6);
        for (int i = 0; i < most; i++) {
            int[] row = {pick(13) - 4, pick(7) - 2, pick(5)};
            PlainMender.Outcome end = plain.run(row);
            int due = Math.abs(end.result) > 999 || pick(12) == 0 ? pick(5) : end.result;
            lines.add("test " + row[0] + " " + row[1] + " " + row[2] + " gives " + due + (pick(3) == 0 ? " held" : ""));
        }
        return String.join(";", lines);
    }

    /** Texts with a byte or two changed have the same faults, and leave the same behind. */
    private static void wrongTexts(ProgramMender m, PlainMender plain, String text, String suite) {
        String signs = "xyzabcdefgh0123456789<>=!+-*/%(){}; \n#";
        for (int i = 0; i < 20; i++) {
            StringBuilder wrong = new StringBuilder(i % 2 == 0 ? text : suite);
            for (int k = 0; k <= pick(2); k++) {
                int place = pick(wrong.length());
                switch (pick(3)) {
                    case 0 -> wrong.setCharAt(place, signs.charAt(pick(signs.length())));
                    case 1 -> wrong.insert(place, signs.charAt(pick(signs.length())));
                    default -> wrong.setLength(Math.max(1, place));
                }
            }
            String told = wrong.toString();
            if (i % 2 == 0) {
                both("program " + told, Check.program(m, told), plain.program(told));
            } else {
                both("tests " + told, Check.tests(m, told), plain.tests(told));
            }
        }
    }

    private static void takeOne(ProgramMender m, PlainMender plain, String of) {
        int node = pick(plain.nodes.size() + 1);
        int change = pick(4);
        both(of + " take(" + node + ", " + change + ")", m.take(node, change), plain.take(node, change));
    }

    // ---- all answers

    private static void compare(ProgramMender m, PlainMender plain, String of) {
        int[] counts = plain.counts();
        for (int what = 0; what < counts.length; what++) {
            both(of + " count(" + what + ")", m.count(what), counts[what]);
        }
        compareNodes(m, plain, of);
        compareRuns(m, plain, of);
        compareSuspects(m, plain, of);
        compareMends(m, plain, of);
    }

    private static void compareNodes(ProgramMender m, PlainMender plain, String of) {
        for (int i = 0; i < plain.nodes.size(); i++) {
            PlainMender.Node n = plain.nodes.get(i);
            CHECK.dueRow(of + " node " + i, Check.node(m, i), n.kind, n.value, plain.nodes.indexOf(n.parent),
                    plain.nodes.indexOf(n.statement), plain.state(n));
            List<Integer> made = plain.made(n);
            both(of + " changes(" + i + ")", m.changes(i), made.size());
            for (int c = 0; c < made.size(); c++) {
                int[] with = plain.with(n, c);
                String call = of + " change(" + i + ", " + c + ", ";
                both(call + "0)", m.change(i, c, 0), with[0]);
                both(call + "1)", m.change(i, c, 1), with[1]);
                both(call + "2)", m.change(i, c, 2), plain.somethingToMend() && with[0] == plain.all(0) ? 1 : 0);
                both(call + "3)", m.change(i, c, 3), made.get(c));
            }
            boolean number = n.kind == 4 && !plain.gone(n);
            CHECK.dueRow(of + " values " + i, Check.values(m, i), number ? plain.values(n) : new int[] {-200, -200, -200, -200});
            boolean condition = (n.kind == 1 || n.kind == 2) && !plain.gone(n);
            both(of + " forced so " + i, m.forced(i, true), condition ? plain.forced(n, true) : -1);
            both(of + " forced not " + i, m.forced(i, false), condition ? plain.forced(n, false) : -1);
        }
    }

    private static void compareRuns(ProgramMender m, PlainMender plain, String of) {
        for (int t = 0; t < plain.tests.size(); t++) {
            int[] test = plain.tests.get(t);
            for (int what = 0; what < 5; what++) {
                both(of + " test", m.test(t, what), test[what]);
            }
            PlainMender.Outcome end = plain.run(test);
            CHECK.dueRow(of + " run " + t, Check.run(m, t), end.how, end.result, end.steps.size(), plain.passes(test) ? 1 : 0);
            for (int k = 0; k < end.steps.size(); k++) {
                both(of + " trace(" + t + ", " + k + ")", m.trace(t, k), plain.nodes.indexOf(end.steps.get(k)));
            }
            both(of + " trace behind", m.trace(t, end.steps.size()), -1);
            for (int n = 0; n < plain.nodes.size(); n++) {
                PlainMender.Node node = plain.nodes.get(n);
                int done = (int) end.steps.stream().filter(s -> s == node).count();
                both(of + " done(" + t + ", " + n + ")", m.done(t, n), node.kind < 4 ? done : -1);
            }
            both(of + " flip(" + t + ")", m.flip(t), plain.flip(test));
        }
    }

    private static void compareSuspects(ProgramMender m, PlainMender plain, String of) {
        for (PlainMender.Node s : plain.statements()) {
            int n = plain.nodes.indexOf(s);
            int[] row = plain.spectrum(s);
            for (int what = 0; what < 4; what++) {
                both(of + " spectrum(" + n + ", " + what + ")", m.spectrum(n, what), row[what]);
            }
            for (int rule = 0; rule < 3; rule++) {
                long[] score = plain.score(rule, s);
                both(of + " above " + rule + " of " + n, m.score(rule, n, 0), (int) score[0]);
                both(of + " below " + rule + " of " + n, m.score(rule, n, 1), (int) score[1]);
            }
        }
        for (int rule = 0; rule < 3; rule++) {
            List<PlainMender.Node> ranked = plain.ranked(rule);
            for (int k = 0; k < ranked.size(); k++) {
                both(of + " suspect(" + rule + ", " + k + ")", m.suspect(rule, k), plain.nodes.indexOf(ranked.get(k)));
            }
            both(of + " suspect behind", m.suspect(rule, ranked.size()), -1);
        }
    }

    private static void compareMends(ProgramMender m, PlainMender plain, String of) {
        List<int[]> mends = plain.mends();
        both(of + " mends", m.mend(-1, 0), mends.size());
        int best = -1;
        int unlike = 0;
        for (int k = 0; k < mends.size(); k++) {
            CHECK.dueRow(of + " mend " + k, Check.mend(m, k), mends.get(k));
            unlike += mends.get(k)[4] == k ? 1 : 0;
            best = best < 0 || mends.get(k)[2] > mends.get(best)[2] ? k : best;
        }
        both(of + " mend behind", m.mend(mends.size(), 0), -1);
        both(of + " unlike", m.unlike(), unlike);
        both(of + " best", m.best(), best);
        CHECK.dueRow(of + " pair", Check.pair(m), plain.pair());
    }
}
