import java.util.ArrayList;
import java.util.List;

/** Promises 1 to 24, one after the other: the edges that each of them names, and the calls that it refuses. */
public final class EdgesOfCallsTest {
    private static final Check CHECK = new Check();
    private static final int LEAST = Integer.MIN_VALUE;
    private static final int GREATEST = Integer.MAX_VALUE;
    /** Nodes: 0 a=, 1 x, 2 while, 3 >, 4 a, 5 3, 6 a=, 7 -, 8 a, 9 1, 10 if, 11 y, 12 return, 13 minus, 14 a, 15 return, 16 a. */
    private static final String TEXT = "a = x; while a > 3 { a = a - 1; if y { return -a; } } return a;";
    /** The second fails, which leaving out the minus mends; the last is one that this overfits. */
    private static final String SUITE = "test 5 0 0 gives 3;test 5 1 0 gives 4;test 2 0 0 gives 2 held;test 6 1 0 gives -5 held";
    private static final int NODES = 17;
    private static final int TESTS = 4;
    private static final int[] STATEMENTS = {0, 2, 6, 10, 12, 15};
    private static final int[] NO_NODES = {LEAST, -200, -2, -1, NODES, NODES + 1, 59, 60, 61, GREATEST};
    private static final int[] NO_TESTS = {LEAST, -2, -1, TESTS, TESTS + 1, 15, 16, 17, GREATEST};

    public static void main(String[] args) {
        newObject();
        feed();
        bytesOfFeed();
        program();
        programInPlace();
        tests();
        node();
        test();
        run();
        done();
        trace();
        spectrum();
        score();
        suspect();
        changes();
        change();
        mend();
        unlikeAndBest();
        pair();
        values();
        forced();
        flip();
        take();
        undo();
        count();
        allCalls();
        CHECK.end();
    }

    private static void newObject() {
        CHECK.sentence("No PROGRAM, no TESTS.");
        ProgramMender m = new ProgramMender();
        for (int what = 0; what <= 9; what++) {
            CHECK.due("count(" + what + ")", m.count(what), 0);
        }
        CHECK.dueNoNode(m, 0, 0);
        CHECK.dueNoTest(m, 0, 0);
        int[] none = {m.run(0, 0), m.done(0, 0), m.trace(0, 0), m.spectrum(0, 0), m.score(0, 0, 0), m.suspect(0, 0), m.changes(0),
            m.mend(0, 0), m.best(), m.forced(0, true), m.flip(0), m.take(0, 0), m.undo(), m.program(1), m.tests(1)};
        for (int i = 0; i < none.length; i++) {
            CHECK.due("none of a new object " + i, none[i], -1);
        }
        CHECK.due("change", m.change(0, 0, 0), -200);
        CHECK.due("values", m.values(0, 0), -200);
        CHECK.due("mends", m.mend(-1, 0), 0);
        CHECK.due("unlike", m.unlike(), 0);
        CHECK.due("pair", m.pair(0), -2);
    }

    private static void feed() {
        CHECK.sentence("THE TAPE has 600 bytes");
        ProgramMender m = new ProgramMender();
        String text = "x=1" + " ".repeat(596) + ";";
        Check.feed(m, text.substring(0, 580));
        CHECK.due("580", m.count(8), 580);
        Check.feed(m, text.substring(580));
        CHECK.due("600", m.count(8), 600);
        CHECK.sentence("NONE, and none come, if it would have more than 600.");
        for (int i = 0; i < 3; i++) {
            CHECK.due("620", m.feed(0x23232323, 0x23232323, 0x23232323, 0x23232323, 0x23232323), -1);
            CHECK.due("still 600", m.count(8), 600);
        }
        CHECK.due("none of those came", m.program(600), 2);
        CHECK.due("empty", m.count(8), 0);
        CHECK.due("it has room again", m.feed(0, 0, 0, 0, 0), 20);
    }

    private static void bytesOfFeed() {
        CHECK.sentence("Twenty bytes come behind THE TAPE, of each number the highest first: how many it has");
        for (int place = 0; place < 20; place++) {
            for (int b : new int[] {0, 127, 128, 255}) {
                ProgramMender m = new ProgramMender();
                int[] numbers = {0x20202020, 0x20202020, 0x20202020, 0x20202020, 0x20202020};
                int shift = 24 - 8 * (place % 4);
                numbers[place / 4] = numbers[place / 4] & ~(255 << shift) | b << shift;
                m.feed(0x20202020, 0x0A0A0A0A, 0x20202020, 0x0A200A20, 0x20202020);
                CHECK.due("how many", m.feed(numbers[0], numbers[1], numbers[2], numbers[3], numbers[4]), 40);
                CHECK.due("byte " + b + " at " + place, m.program(40), Check.fault(20 + place, 1));
            }
        }
        ProgramMender m = new ProgramMender();
        for (int i = 1; i <= 30; i++) {
            CHECK.due("feed " + i, m.feed(LEAST, GREATEST, -1, 0, 1), 20 * i);
        }
    }

    private static void program() {
        CHECK.sentence("NONE: it has not so many, n is below 0 (THE TAPE stays).");
        ProgramMender m = new ProgramMender();
        CHECK.due("one of none", m.program(1), -1);
        Check.feed(m, "x=1;");
        for (int n : new int[] {21, 22, 600, 601, GREATEST, -1, -2, LEAST}) {
            CHECK.due("program(" + n + ")", m.program(n), -1);
            CHECK.due("the tape stays", m.count(8), 20);
        }
        CHECK.due("no program", m.count(0), 0);
        CHECK.due("all of them", m.program(20), 2);
        CHECK.sentence("The first n bytes of THE TAPE (it is empty then) are a PROGRAM");
        CHECK.due("empty", m.count(8), 0);
        CHECK.due("none left", m.program(1), -1);
        Check.feed(m, "x=1;y=2;z=3;a=4;b=5;c=6;");
        CHECK.due("the first 8", m.program(8), 4);
        CHECK.due("what is behind them is gone", m.count(8), 0);
        m.feed(0x20202020, 0x20202020, 0x20202020, 0x20202020, 0x20202020);
        CHECK.due("and does not come back", m.program(20), Check.fault(20, 1));
        Check.feed(m, "x=1;");
        CHECK.due("none of them", m.program(0), Check.fault(0, 1));
        CHECK.due("empty behind a fault, too", m.count(8), 0);
    }

    private static void programInPlace() {
        CHECK.sentence("in place of the one there was (TESTS stay; nothing is TAKEN): how many NODES");
        ProgramMender m = sample();
        m.take(2, 1);
        m.take(13, 0);
        m.mend(-1, 0);
        m.pair(0);
        m.values(5, 0);
        m.flip(1);
        m.forced(10, true);
        CHECK.due("another one", Check.program(m, "if x { y = -7; } return y + z;"), 9);
        CHECK.dueRow("tests stay", row(m.count(2), m.count(3), m.test(1, 3)), 4, 2, 4);
        CHECK.dueRow("statements, variables, taken, changes", row(m.count(1), m.count(6), m.count(7), m.count(9)), 3, 3, 0, 18);
        CHECK.due("nothing to take back", m.undo(), -1);
        for (int n = 0; n < 9; n++) {
            CHECK.due("as told " + n, m.node(n, 4), 0);
        }
        CHECK.dueNoNode(m, 9, 0);
        CHECK.dueRow("its run", Check.run(m, 0), 0, -7, 3, 0);
        CHECK.dueRow("done", row(m.done(0, 0), m.done(0, 2), m.done(0, 5), m.done(0, 6)), 1, 1, 1, -1);
        CHECK.dueRow("suspects", row(m.suspect(1, 0), m.suspect(1, 1), m.suspect(1, 2), m.suspect(1, 3)), 0, 2, 5, -1);
        CHECK.dueRow("mends, pair", row(m.mend(-1, 0), m.pair(0), m.count(4), m.count(5)), 0, -2, 0, 0);
        CHECK.dueRow("values", Check.values(m, 4), 0, -200, -200, -200);
        CHECK.sentence("-2 less (8 * place + kind): a FAULT (all else stays).");
        for (String wrong : new String[] {"", "x=1;#", "x=1;".repeat(21), "x=" + "1+".repeat(30) + "1;", "return x"}) {
            staysBehind(wrong, false);
        }
    }

    private static void staysBehind(String wrong, boolean asTests) {
        ProgramMender m = sample();
        m.take(5, 0);
        List<Integer> before = answers(m);
        int answer = asTests ? Check.tests(m, wrong) : Check.program(m, wrong);
        CHECK.due("it is refused: " + wrong, answer < -2 ? 1 : 0, 1);
        CHECK.due("it changes nothing: " + wrong, answers(m).equals(before) ? 1 : 0, 1);
    }

    private static void tests() {
        CHECK.sentence("Likewise TESTS, in place of those there were: how many.");
        ProgramMender m = new ProgramMender();
        CHECK.due("one byte of none", m.tests(1), -1);
        Check.feed(m, "test 1 2 3 gives 4");
        for (int n : new int[] {21, 22, 600, 601, GREATEST, -1, -2, LEAST}) {
            CHECK.due("tests(" + n + ")", m.tests(n), -1);
            CHECK.due("the tape stays", m.count(8), 20);
        }
        CHECK.due("no tests", m.count(2), 0);
        CHECK.due("the first 18", m.tests(18), 1);
        CHECK.due("empty", m.count(8), 0);
        Check.feed(m, "test 1 2 3 gives 4;test 1 2 3 gives 5");
        CHECK.due("none of them", m.tests(0), Check.fault(0, 1));
        CHECK.due("empty behind a fault, too", m.count(8), 0);
        for (String wrong : new String[] {"", "x=1;", "test 7 7 7 gives 7 held;", "test 7 7 7 gives 7;".repeat(17)}) {
            staysBehind(wrong, true);
        }
        ProgramMender other = sample();
        other.take(13, 0);
        other.mend(-1, 0);
        other.pair(0);
        other.values(5, 0);
        CHECK.due("others", Check.tests(other, "test 5 1 0 gives 9 held;test 1 0 0 gives 1"), 2);
        CHECK.dueRow("of those", row(other.count(2), other.count(3), other.count(4), other.count(5), other.test(0, 4), other.test(1, 4)),
                2, 1, 1, 0, 1, 0);
        CHECK.dueNoTest(other, 2, 0);
        CHECK.dueRow("the program stays, and what is taken", row(other.count(0), other.count(7), other.node(13, 4)), 17, 1, 1);
        CHECK.dueRow("a run", Check.run(other, 0), 0, 4, 5, 0);
        CHECK.due("values", other.values(5, 0), 99);
    }

    private static void node() {
        CHECK.sentence("1: its NUMBER, VARIABLE (also that of KIND 0), SIGN (as they are now; -100 for others)");
        ProgramMender m = sample();
        CHECK.dueRow("as told", row(m.node(0, 1), m.node(1, 1), m.node(3, 1), m.node(5, 1)), 3, 0, 9, 3);
        m.take(1, 0);
        m.take(3, 4);
        m.take(5, 2);
        CHECK.dueRow("as they are now", row(m.node(0, 1), m.node(1, 1), m.node(3, 1), m.node(5, 1)), 3, 1, 10, 0);
        m.undo();
        m.undo();
        m.undo();
        for (int n : new int[] {2, 10, 12, 13, 15}) {
            CHECK.due("node(" + n + ", 1)", m.node(n, 1), -100);
        }
        ProgramMender signs = Check.told("return (((((x<y)<=y)==y)!=y)>y)>=y+1-2*3/4%5;", SUITE);
        CHECK.dueRow("signs", row(signs.node(1, 1), signs.node(2, 1), signs.node(3, 1), signs.node(4, 1), signs.node(5, 1), signs.node(6, 1)),
                10, 9, 8, 7, 6, 5);
        CHECK.dueRow("signs", row(signs.node(13, 1), signs.node(14, 1), signs.node(17, 1), signs.node(18, 1), signs.node(19, 1)), 1, 0, 4, 3, 2);
        CHECK.sentence("2: the NODE in which it is (NONE: in none)");
        for (int n : new int[] {0, 2, 15}) {
            CHECK.due("in none " + n, m.node(n, 2), -1);
        }
        CHECK.dueRow("in one", row(m.node(1, 2), m.node(6, 2), m.node(10, 2), m.node(12, 2), m.node(14, 2)), 0, 2, 2, 10, 13);
        CHECK.dueRow("in an E", row(m.node(3, 2), m.node(4, 2), m.node(5, 2), m.node(7, 2), m.node(8, 2), m.node(9, 2)), 2, 3, 3, 6, 7, 7);
        CHECK.sentence("3: the STATEMENT in which it is (of a STATEMENT itself)");
        CHECK.dueRow("statements", row(m.node(0, 3), m.node(5, 3), m.node(6, 3), m.node(12, 3), m.node(14, 3)), 0, 2, 6, 12, 12);
        CHECK.sentence("4: 1 it is left out, or within a STATEMENT that is; else 2 it is denied, 3 its sides have changed places, else 0");
        m.take(10, 0);
        m.take(7, 4);
        CHECK.dueRow("denied, changed", row(m.node(10, 4), m.node(11, 4), m.node(7, 4), m.node(8, 4)), 2, 0, 3, 0);
        m.take(2, 1);
        for (int n = 0; n < NODES; n++) {
            CHECK.due("in the while " + n, m.node(n, 4), n >= 2 && n < 15 ? 1 : 0);
        }
        m.undo();
        CHECK.dueRow("denied, changed again", row(m.node(10, 4), m.node(7, 4), m.node(2, 4)), 2, 3, 0);
        CHECK.sentence("NoSuchElementException: others, none such.");
        for (int n : NO_NODES) {
            CHECK.dueNoNode(m, n, 0);
            CHECK.dueNoNode(m, n, 5);
        }
        for (int what : new int[] {LEAST, -2, -1, 5, 6, GREATEST}) {
            CHECK.dueNoNode(m, 0, what);
            CHECK.dueNoNode(m, NODES - 1, what);
        }
        CHECK.due("the last", m.node(NODES - 1, 0), 5);
    }

    private static void test() {
        CHECK.sentence("4: 1 it is HELD; NoSuchElementException: others, none such.");
        ProgramMender m = sample();
        CHECK.dueRow("the last", row(m.test(3, 0), m.test(3, 1), m.test(3, 2), m.test(3, 3), m.test(3, 4)), 6, 1, 0, -5, 1);
        CHECK.due("a shown one", m.test(0, 4), 0);
        for (int t : NO_TESTS) {
            CHECK.dueNoTest(m, t, 0);
            CHECK.dueNoTest(m, t, 4);
        }
        for (int what : new int[] {LEAST, -2, -1, 5, 6, GREATEST}) {
            CHECK.dueNoTest(m, 0, what);
            CHECK.dueNoTest(m, TESTS - 1, what);
        }
    }

    private static void run() {
        CHECK.sentence("1: what it returned (0 unless it ended)");
        ProgramMender crash = Check.told("a = 7; return a / x;", "test 0 0 0 gives 0");
        CHECK.dueRow("a crash", Check.run(crash, 0), 1, 0, 2, 0);
        ProgramMender hang = Check.told("a = 7; while a { a = 8; } return a;", "test 0 0 0 gives 0");
        CHECK.dueRow("a hang", Check.run(hang, 0), 2, 0, 300, 0);
        ProgramMender end = Check.told("a = 7;", "test 0 0 0 gives 0");
        CHECK.dueRow("the end", Check.run(end, 0), 0, 0, 1, 1);
        CHECK.sentence("3: 1 it PASSES; NONE: others, none such, no PROGRAM.");
        ProgramMender m = sample();
        CHECK.dueRow("passes", Check.run(m, 0), 0, 3, 9, 1);
        CHECK.dueRow("fails", Check.run(m, 1), 0, -4, 5, 0);
        CHECK.dueRow("a held one", Check.run(m, 3), 0, -5, 5, 1);
        for (int t : NO_TESTS) {
            CHECK.dueRow("run(" + t + ")", Check.run(m, t), -1, -1, -1, -1);
        }
        for (int what : new int[] {LEAST, -2, -1, 4, 5, GREATEST}) {
            CHECK.due("what " + what, m.run(0, what), -1);
        }
        CHECK.dueRow("no program", Check.run(testsAlone(), 0), -1, -1, -1, -1);
    }

    private static void done() {
        CHECK.sentence("How often a STATEMENT is done in a TEST's RUN; NONE: others (no STATEMENT).");
        ProgramMender m = sample();
        CHECK.dueRow("done", row(m.done(0, 0), m.done(0, 2), m.done(0, 6), m.done(0, 10), m.done(0, 12), m.done(0, 15)), 1, 3, 2, 2, 0, 1);
        for (int n = 0; n < NODES; n++) {
            CHECK.due("done of " + n, m.done(0, n) >= 0 ? 1 : 0, isStatement(n) ? 1 : 0);
        }
        for (int n : NO_NODES) {
            CHECK.due("done(0, " + n + ")", m.done(0, n), -1);
        }
        for (int t : NO_TESTS) {
            CHECK.due("done(" + t + ", 0)", m.done(t, 0), -1);
        }
        CHECK.due("no program", testsAlone().done(0, 0), -1);
        m.take(2, 1);
        CHECK.dueRow("left out", row(m.done(0, 0), m.done(0, 2), m.done(0, 6), m.done(0, 15)), 1, 0, 0, 1);
    }

    private static void trace() {
        CHECK.sentence("The STATEMENT that is the k-th STEP (from 0 on) of a TEST's RUN; NONE: none such, others.");
        ProgramMender m = sample();
        CHECK.dueRow("trace", row(m.trace(1, 0), m.trace(1, 1), m.trace(1, 2), m.trace(1, 3), m.trace(1, 4), m.trace(1, 5)), 0, 2, 6, 10, 12, -1);
        for (int k : new int[] {LEAST, -2, -1, 9, 10, 299, 300, 301, GREATEST}) {
            CHECK.due("trace(0, " + k + ")", m.trace(0, k), -1);
        }
        for (int t : NO_TESTS) {
            CHECK.due("trace(" + t + ", 0)", m.trace(t, 0), -1);
        }
        ProgramMender hang = Check.told("while 1 { a = 1; }", "test 0 0 0 gives 0");
        CHECK.dueRow("300 steps", row(hang.trace(0, 0), hang.trace(0, 298), hang.trace(0, 299), hang.trace(0, 300)), 0, 0, 2, -1);
        CHECK.due("no program", testsAlone().trace(0, 0), -1);
    }

    private static void spectrum() {
        CHECK.sentence("2: FAIL and don't, 3: PASS and don't; NONE: others.");
        ProgramMender m = sample();
        CHECK.dueRow("a return", row(m.spectrum(12, 0), m.spectrum(12, 1), m.spectrum(12, 2), m.spectrum(12, 3)), 1, 0, 0, 1);
        CHECK.dueRow("the last", row(m.spectrum(15, 0), m.spectrum(15, 1), m.spectrum(15, 2), m.spectrum(15, 3)), 0, 1, 1, 0);
        for (int what : new int[] {LEAST, -2, -1, 4, 5, GREATEST}) {
            CHECK.due("what " + what, m.spectrum(0, what), -1);
        }
        for (int n : NO_NODES) {
            CHECK.due("spectrum(" + n + ", 0)", m.spectrum(n, 0), -1);
        }
        for (int n = 0; n < NODES; n++) {
            CHECK.due("spectrum of " + n, m.spectrum(n, 3) >= 0 ? 1 : 0, isStatement(n) ? 1 : 0);
        }
    }

    private static void score() {
        CHECK.sentence("in lowest terms (0 by 1); NONE: others");
        ProgramMender m = sample();
        CHECK.dueRow("0 by 1", row(m.score(0, 15, 0), m.score(0, 15, 1), m.score(2, 15, 0), m.score(2, 15, 1)), 0, 1, 0, 1);
        for (int wrong : new int[] {LEAST, -2, -1, 3, 4, GREATEST}) {
            CHECK.due("rule " + wrong, m.score(wrong, 0, 0), -1);
            CHECK.due("what " + wrong, m.score(0, 0, wrong), -1);
        }
        CHECK.due("what 2", m.score(0, 0, 2), -1);
        for (int n : NO_NODES) {
            CHECK.due("score of " + n, m.score(1, n, 0), -1);
        }
        for (int n = 0; n < NODES; n++) {
            CHECK.due("score of " + n, m.score(1, n, 1) >= 1 ? 1 : 0, isStatement(n) ? 1 : 0);
        }
    }

    private static void suspect() {
        CHECK.sentence("The k-th STATEMENT as RANKED by a RULE; NONE: others, none such.");
        ProgramMender m = sample();
        int[] due = {12, 0, 2, 6, 10, 15};
        for (int rule = 0; rule < 3; rule++) {
            for (int k = 0; k < due.length; k++) {
                CHECK.due("suspect(" + rule + ", " + k + ")", m.suspect(rule, k), due[k]);
            }
            for (int k : new int[] {LEAST, -2, -1, 6, 7, 19, 20, GREATEST}) {
                CHECK.due("suspect(" + rule + ", " + k + ")", m.suspect(rule, k), -1);
            }
        }
        for (int rule : new int[] {LEAST, -2, -1, 3, 4, GREATEST}) {
            CHECK.due("rule " + rule, m.suspect(rule, 0), -1);
        }
        ProgramMender twenty = Check.told("x=1;".repeat(20), "test 0 0 0 gives 1");
        CHECK.dueRow("of twenty", row(twenty.suspect(2, 0), twenty.suspect(2, 19), twenty.suspect(2, 20)), 0, 38, -1);
    }

    private static void changes() {
        CHECK.sentence("How many CHANGES a NODE has; NONE: none such.");
        ProgramMender m = sample();
        int[] due = {1, 2, 2, 5, 2, 3, 1, 5, 2, 2, 2, 2, 1, 1, 2, 1, 2};
        for (int n = 0; n < NODES; n++) {
            CHECK.due("changes(" + n + ")", m.changes(n), due[n]);
        }
        for (int n : NO_NODES) {
            CHECK.due("changes(" + n + ")", m.changes(n), -1);
        }
        m.take(15, 0);
        CHECK.dueRow("left out: none, but it is there", row(m.changes(15), m.changes(16), m.changes(17)), 0, 0, -1);
    }

    private static void change() {
        CHECK.sentence("3: the NUMBER, VARIABLE, SIGN that it makes (-100 for others); -200: others, none such.");
        ProgramMender m = sample();
        CHECK.dueRow("leaving out the minus", row(m.change(13, 0, 0), m.change(13, 0, 1), m.change(13, 0, 2), m.change(13, 0, 3)), 2, 1, 1, -100);
        for (int n : NO_NODES) {
            CHECK.due("change(" + n + ", 0, 0)", m.change(n, 0, 0), -200);
        }
        for (int c : new int[] {LEAST, -2, -1, 1, 2, GREATEST}) {
            CHECK.due("change(13, " + c + ", 0)", m.change(13, c, 0), -200);
        }
        for (int what : new int[] {LEAST, -200, -2, -1, 4, 5, GREATEST}) {
            CHECK.due("what " + what, m.change(13, 0, what), -200);
        }
        m.take(13, 0);
        CHECK.due("it has none any more", m.change(13, 0, 3), -200);
        CHECK.due("nothing is to be mended", m.change(9, 0, 2), 0);
        ProgramMender untested = new ProgramMender();
        Check.program(untested, TEXT);
        CHECK.dueRow("no tests", row(untested.change(13, 0, 0), untested.change(13, 0, 1), untested.change(13, 0, 2)), 0, 0, 0);
    }

    private static void mend() {
        CHECK.sentence("how many there are (k NONE, whatever what is); NONE: others, none such");
        ProgramMender m = sample();
        int[] whats = {LEAST, -2, -1, 0, 4, 5, GREATEST};
        for (int what : whats) {
            CHECK.due("mend(NONE, " + what + ")", m.mend(-1, what), 1);
        }
        CHECK.dueRow("the minus", Check.mend(m, 0), 13, 0, 1, 1, 0);
        for (int what : new int[] {LEAST, -2, -1, 5, 6, GREATEST}) {
            CHECK.due("what " + what, m.mend(0, what), -1);
        }
        for (int k : new int[] {LEAST, -2, 1, 2, 479, 480, 481, GREATEST}) {
            CHECK.due("mend(" + k + ", 0)", m.mend(k, 0), -1);
        }
        CHECK.sentence("MENDS are as all is now.");
        m.take(13, 0);
        CHECK.due("none", m.mend(-1, 0), 0);
        CHECK.due("no first one", m.mend(0, 0), -1);
        m.undo();
        CHECK.due("one again", m.mend(-1, 0), 1);
        CHECK.due("no program", testsAlone().mend(-1, 0), 0);
        CHECK.sentence("4: the first MEND with which it is ALIKE (itself, too)");
        ProgramMender two = Check.told("return x + 3;", "test 2 0 0 gives 6");
        CHECK.dueRow("alike", row(two.mend(0, 4), two.mend(1, 4)), 0, 0);
        Check.tests(two, "test 2 0 0 gives 6;test 3 0 0 gives 6 held");
        CHECK.dueRow("unlike", row(two.mend(0, 4), two.mend(1, 4)), 0, 1);
    }

    private static void unlikeAndBest() {
        CHECK.sentence("How many MENDS there are of which no two are ALIKE.");
        CHECK.due("none", testsAlone().unlike(), 0);
        CHECK.due("one", sample().unlike(), 1);
        ProgramMender two = Check.told("return x + 3;", "test 2 0 0 gives 6;test 3 0 0 gives 7 held");
        CHECK.due("two", two.unlike(), 2);
        Check.tests(two, "test 2 0 0 gives 6;test 2 0 0 gives 7 held");
        CHECK.due("two that are alike", two.unlike(), 1);
        CHECK.sentence("The MEND of which most HELD TESTS PASS, of several the first; NONE: none.");
        CHECK.due("the first", two.best(), 0);
        Check.tests(two, "test 2 0 0 gives 6;test 3 0 0 gives 7 held");
        CHECK.due("the second", two.best(), 1);
        Check.tests(two, "test 3 0 0 gives 7 held;test 2 0 0 gives 6");
        CHECK.dueRow("also if the held one is told first", row(two.best(), two.unlike(), two.mend(0, 2), two.mend(1, 2)), 1, 2, 0, 1);
        Check.tests(two, "test 2 0 0 gives 6;test 3 0 0 gives 7 held;test 3 0 0 gives 9 held");
        CHECK.due("of equal ones the first", two.best(), 0);
        Check.tests(two, "test 2 0 0 gives 6;test 3 0 0 gives 8 held");
        CHECK.due("with which none passes", two.best(), 0);
        Check.tests(two, "test 2 0 0 gives 5;test 3 0 0 gives 8 held");
        CHECK.due("none", two.best(), -1);
    }

    private static void pair() {
        CHECK.sentence("-2: there is none (also if there is a MEND, none FAILS); NONE: others.");
        ProgramMender m = Check.told("a = 7; b = 7; return a * 10 + b;", "test 0 0 0 gives 88;test 0 0 0 gives 88 held;test 0 0 0 gives 77 held");
        int[] others = {LEAST, -2, -1, 5, 6, GREATEST};
        CHECK.dueRow("a pair", Check.pair(m), 1, 0, 3, 0, 1);
        noPairOf(m, others);
        m.take(1, 0);
        CHECK.dueRow("a mend", Check.pair(m), -2, -2, -2, -2, -2);
        noPairOf(m, others);
        m.take(3, 0);
        CHECK.dueRow("none fails", Check.pair(m), -2, -2, -2, -2, -2);
        noPairOf(m, others);
        Check.tests(m, "test 0 0 0 gives 999");
        CHECK.dueRow("none", Check.pair(m), -2, -2, -2, -2, -2);
        noPairOf(m, others);
        CHECK.dueRow("no program", Check.pair(testsAlone()), -2, -2, -2, -2, -2);
        noPairOf(testsAlone(), others);
    }

    private static void noPairOf(ProgramMender m, int[] others) {
        for (int what : others) {
            CHECK.due("pair(" + what + ")", m.pair(what), -1);
        }
    }

    private static void values() {
        CHECK.sentence("of all values -99 to 99 in its place those with which all SHOWN TESTS PASS");
        valuesOf("return 5;", "test 0 0 0 gives 99", 1, 1, 99, 99, 99);
        valuesOf("return 5;", "test 0 0 0 gives -99", 1, 1, -99, -99, -99);
        valuesOf("return 5;", "test 0 0 0 gives 100", 1, 0, -200, -200, -200);
        valuesOf("return 5;", "test 0 0 0 gives -100", 1, 0, -200, -200, -200);
        valuesOf("return 5;", "test 0 0 0 gives 0", 1, 1, 0, 0, 0);
        valuesOf("return 999;", "test 0 0 0 gives 999", 1, 0, -200, -200, -200);
        valuesOf("return 5 < x;", "test 0 0 0 gives 1;test 99 0 0 gives 1", 2, 99, -99, -1, -1);
        CHECK.sentence("without any SHOWN TEST all");
        valuesOf("return 5;", "test 0 0 0 gives 7 held", 1, 199, -99, 99, 5);
        ProgramMender untested = new ProgramMender();
        Check.program(untested, "return 5;");
        CHECK.dueRow("no test at all", Check.values(untested, 1), 199, -99, 99, 5);
        CHECK.sentence("3: the nearest to what it is (of two the lesser)");
        valuesOf("a = 3; return (a - 1) * (a - 5);", "test 0 0 0 gives 0", 1, 2, 1, 5, 1);
        valuesOf("a = 3; return (a - 2) * (a - 5);", "test 0 0 0 gives 0", 1, 2, 2, 5, 2);
        valuesOf("a = 4; return (a - 2) * (a - 5);", "test 0 0 0 gives 0", 1, 2, 2, 5, 5);
        valuesOf("a = 5; return (a - 2) * (a - 5);", "test 0 0 0 gives 0", 1, 2, 2, 5, 5);
        valuesOf("a = 999; return a > 9;", "test 0 0 0 gives 1", 1, 90, 10, 99, 99);
        CHECK.sentence("-200: others, no NUMBER (also left out), none such (1 to 3)");
        ProgramMender m = sample();
        CHECK.dueRow("a number", Check.values(m, 9), 0, -200, -200, -200);
        ProgramMender some = Check.told("return 5 < x;", "test 0 0 0 gives 1");
        CHECK.due("a number with values", some.values(2, 0), 99);
        for (int what : new int[] {LEAST, -2, -1, 4, 5, GREATEST}) {
            CHECK.due("what " + what, some.values(2, what), -200);
        }
        for (int n = 0; n < NODES; n++) {
            CHECK.due("values(" + n + ", 0)", m.values(n, 0), n == 5 || n == 9 ? 0 : -200);
        }
        for (int n : NO_NODES) {
            CHECK.due("values(" + n + ", 0)", m.values(n, 0), -200);
        }
        m.take(2, 1);
        CHECK.dueRow("left out", row(m.values(5, 0), m.values(9, 0), m.values(9, 1)), -200, -200, -200);
        ProgramMender minus = Check.told("return -5;", "test 0 0 0 gives 7");
        minus.take(1, 0);
        CHECK.dueRow("behind a minus that is left out", Check.values(minus, 2), 1, 7, 7, 7);
    }

    private static void valuesOf(String program, String suite, int node, int... want) {
        CHECK.dueRow("values of " + program, Check.values(Check.told(program, suite), node), want);
    }

    private static void forced() {
        CHECK.sentence("it is worked out all the same, denied or not");
        ProgramMender crash = Check.told("if 1 / x { return 1; } return 0;", "test 0 0 0 gives 1;test 0 0 0 gives 0;test 1 0 0 gives 1");
        CHECK.dueRow("forced", row(crash.forced(0, true), crash.forced(0, false)), 1, 0);
        crash.take(0, 0);
        CHECK.dueRow("denied", row(crash.forced(0, true), crash.forced(0, false)), 1, 0);
        CHECK.sentence("If E of an if, a while came out so each time (or each time not");
        ProgramMender loop = Check.told("while x { x = x - 1; a = a + 1; if a == 9 { return a; } } return a;",
                "test 3 0 0 gives 3;test 3 0 0 gives 9;test 0 0 0 gives 9;test 5 0 0 gives 0;test 5 0 0 gives 9 held");
        CHECK.dueRow("an if", row(loop.forced(10, true), loop.forced(10, false)), 0, 1);
        CHECK.dueRow("a while", row(loop.forced(0, false), loop.forced(0, true), loop.count(4)), 1, 2, 1);
        CHECK.due("nothing stays forced: the if left out", loop.change(10, 1, 0), 1);
        loop.take(2, 0);
        loop.undo();
        CHECK.dueRow("nor as all is learned again", row(loop.count(4), loop.run(0, 1), loop.run(3, 1)), 1, 3, 5);
        CHECK.sentence("how many SHOWN TESTS would PASS; NONE: others, it is left out");
        ProgramMender m = sample();
        for (int n = 0; n < NODES; n++) {
            CHECK.due("forced " + n, m.forced(n, true) >= 0 ? 1 : 0, n == 2 || n == 10 ? 1 : 0);
        }
        for (int n : NO_NODES) {
            CHECK.due("forced(" + n + ", true)", m.forced(n, true), -1);
            CHECK.due("forced(" + n + ", false)", m.forced(n, false), -1);
        }
        m.take(2, 1);
        CHECK.dueRow("left out", row(m.forced(2, true), m.forced(2, false), m.forced(10, true), m.forced(10, false)), -1, -1, -1, -1);
        ProgramMender untested = new ProgramMender();
        Check.program(untested, TEXT);
        CHECK.due("no tests", untested.forced(2, true), 0);
    }

    private static void flip() {
        CHECK.sentence("as they come (from 0 on; those that come out), the first by which, if it came out the other way (it alone), the TEST would PASS");
        ProgramMender m = Check.told("while a < 3 { a = a + 1; } return a;", "test 0 0 0 gives 0;test 0 0 0 gives 2;test 0 0 0 gives 4;test 0 0 0 gives 5");
        CHECK.dueRow("the first, the third, the last, none", row(m.flip(0), m.flip(1), m.flip(2), m.flip(3)), 0, 2, 3, -2);
        Check.tests(m, "test 0 0 0 gives 3");
        CHECK.dueRow("nothing stays so", row(m.count(4), m.run(0, 1), m.run(0, 2), m.values(3, 0)), 1, 3, 8, 1);
        ProgramMender crash = Check.told("if x { } if 1 / x { } return 3;", "test 0 0 0 gives 3");
        CHECK.due("what crashes does not come out", crash.flip(0), -2);
        ProgramMender hang = Check.told("while 1 { a = a + 1; } return a;", "test 0 0 0 gives 149;test 0 0 0 gives 150");
        CHECK.dueRow("the last asking of which a return comes, and one too late", row(hang.flip(0), hang.flip(1)), 149, -2);
        ProgramMender several = Check.told("if x { return 1; } if x { return 1; } return 2;", "test 0 0 0 gives 1");
        CHECK.due("of several the first", several.flip(0), 0);
        CHECK.sentence("-2: none; NONE: others, it PASSES");
        ProgramMender passes = sample();
        CHECK.dueRow("it passes, fails, a held one", row(passes.flip(0), passes.flip(1), passes.flip(2)), -1, -2, -1);
        for (int t : NO_TESTS) {
            CHECK.due("flip(" + t + ")", passes.flip(t), -1);
        }
        CHECK.due("no program", testsAlone().flip(0), -1);
        CHECK.due("no askings", Check.told("return 1;", "test 0 0 0 gives 2").flip(0), -2);
        CHECK.due("held", Check.told("if x { return 1; }", "test 0 0 0 gives 1 held").flip(0), 0);
    }

    private static void take() {
        CHECK.sentence("A CHANGE is TAKEN (MEND or not): how many are; NONE: others, 20 are.");
        ProgramMender m = sample();
        List<Integer> before = answers(m);
        for (int n : NO_NODES) {
            CHECK.due("take(" + n + ", 0)", m.take(n, 0), -1);
        }
        for (int c : new int[] {LEAST, -2, -1, 3, 4, GREATEST}) {
            CHECK.due("take(5, " + c + ")", m.take(5, c), -1);
        }
        CHECK.due("nothing is changed", answers(m).equals(before) ? 1 : 0, 1);
        ProgramMender taken = sample();
        CHECK.due("no mend", taken.take(5, 2), 1);
        CHECK.due("a mend", taken.take(13, 0), 2);
        CHECK.due("not twice", taken.take(13, 0), -1);
        CHECK.due("not of that number", taken.take(5, 2), -1);
        for (int i = 3; i <= 20; i++) {
            CHECK.due("take " + i, taken.take(5, 0), i);
        }
        CHECK.due("20 are", taken.take(5, 0), -1);
        CHECK.dueRow("20", row(taken.count(7), taken.node(5, 1)), 20, 18);
        CHECK.due("one less", taken.undo(), 19);
        CHECK.due("one more", taken.take(5, 1), 20);
        CHECK.due("no program", testsAlone().take(0, 0), -1);
    }

    private static void undo() {
        CHECK.sentence("The latest that was TAKEN is taken back: how many are left; NONE: none was.");
        ProgramMender m = sample();
        CHECK.due("none was", m.undo(), -1);
        List<Integer> before = answers(m);
        m.take(5, 0);
        m.take(10, 0);
        m.take(2, 1);
        CHECK.dueRow("the latest first", row(m.undo(), m.node(2, 4), m.node(10, 4), m.node(5, 1)), 2, 0, 2, 4);
        CHECK.dueRow("then the one before", row(m.undo(), m.node(10, 4), m.node(5, 1)), 1, 0, 4);
        CHECK.dueRow("then the first", row(m.undo(), m.node(5, 1)), 0, 3);
        CHECK.due("none is left", m.undo(), -1);
        CHECK.due("all as at first", answers(m).equals(before) ? 1 : 0, 1);
    }

    private static void count() {
        CHECK.sentence("both 0 without a PROGRAM");
        ProgramMender alone = testsAlone();
        CHECK.dueRow("tests alone", row(alone.count(0), alone.count(1), alone.count(2), alone.count(3), alone.count(4), alone.count(5),
            alone.count(6), alone.count(9)), 0, 0, 4, 2, 0, 0, 0, 0);
        CHECK.due("held ones, asked first", testsAlone().count(5), 0);
        Check.tests(alone, "test 0 0 0 gives 0;test 0 0 0 gives 0 held");
        CHECK.dueRow("not even if 0 is due", row(alone.count(4), alone.count(5), alone.run(0, 3), alone.mend(-1, 0)), 0, 0, -1, 0);
        CHECK.sentence("5: HELD ones that PASS");
        CHECK.due("asked first", sample().count(5), 2);
        ProgramMender m = sample();
        m.count(5);
        m.take(13, 0);
        CHECK.dueRow("as all is now", row(m.count(4), m.count(5)), 2, 1);
        CHECK.sentence("6: VARIABLES of the PROGRAM, 7: TAKEN, 8: bytes on THE TAPE, 9: CHANGES of all NODES");
        CHECK.dueRow("counts", row(m.count(6), m.count(7), m.count(8), m.count(9)), 3, 1, 0, 35);
        m.feed(0, 0, 0, 0, 0);
        CHECK.due("bytes", m.count(8), 20);
        CHECK.due("nine", Check.told("f=e;d=c;b=a;z=y+x;", SUITE).count(6), 9);
        CHECK.due("one", Check.told("x=1;", SUITE).count(6), 1);
        CHECK.due("none", Check.told("return 1;", SUITE).count(6), 0);
        CHECK.sentence("NONE for another what.");
        for (int what : new int[] {LEAST, -2, -1, 10, 11, GREATEST}) {
            CHECK.due("count(" + what + ")", m.count(what), -1);
            CHECK.due("of a new object", new ProgramMender().count(what), -1);
        }
    }

    private static void allCalls() {
        CHECK.sentence("An object is used for at most 512 calls after it has been made");
        ProgramMender m = sample();
        int calls = (TEXT.length() + 19) / 20 + (SUITE.length() + 19) / 20 + 2;
        for (; calls + 4 <= 510; calls += 4) {
            CHECK.due("take", m.take(13, 0), 1);
            CHECK.due("it is mended", m.mend(-1, 0), 0);
            CHECK.due("undo", m.undo(), 0);
            CHECK.due("it is not", m.mend(-1, 0), 1);
        }
        for (; calls < 510; calls++) {
            CHECK.due("nodes", m.count(0), NODES);
        }
        CHECK.due("the 511th", m.run(1, 1), -4);
        CHECK.due("the 512th", m.pair(0), -2);
    }

    private static ProgramMender sample() {
        return Check.told(TEXT, SUITE);
    }

    private static ProgramMender testsAlone() {
        ProgramMender m = new ProgramMender();
        Check.tests(m, SUITE);
        return m;
    }

    private static boolean isStatement(int node) {
        for (int statement : STATEMENTS) {
            if (statement == node) {
                return true;
            }
        }
        return false;
    }

    private static int[] row(int... answers) {
        return answers;
    }

    /** What is answered of the sample, in some 200 calls: all that a refused call must leave as it is. */
    private static List<Integer> answers(ProgramMender m) {
        List<Integer> all = new ArrayList<>();
        for (int what = 0; what <= 9; what++) {
            all.add(m.count(what));
        }
        for (int n = 0; n < m.count(0); n++) {
            all.add(m.node(n, 0));
            all.add(m.node(n, 1));
            all.add(m.node(n, 4));
            all.add(m.changes(n));
            all.add(m.done(1, n));
            all.add(m.spectrum(n, 0));
            all.add(m.score(1, n, 1));
        }
        for (int t = 0; t < m.count(2); t++) {
            all.add(m.test(t, 3));
            all.add(m.run(t, 1));
            all.add(m.run(t, 2));
            all.add(m.flip(t));
        }
        all.add(m.mend(-1, 0));
        all.add(m.mend(0, 0));
        all.add(m.pair(0));
        all.add(m.values(5, 0));
        return all;
    }
}
