/** Promises 7 to 9: how a run ends, how often a statement is done, what its steps are. */
public final class RunTest {
    private static final Check CHECK = new Check();

    public static void main(String[] args) {
        returned();
        arithmetic();
        compares();
        crashes();
        hangs();
        ways();
        counts();
        refused();
        CHECK.end();
    }

    private static void returned() {
        CHECK.due("an end without return", Check.value("x = 5;", "1 2 3"), 0);
        CHECK.due("a return", Check.value("return x * 100 + y * 10 + z;", "1 2 3"), 123);
        CHECK.due("others are 0", Check.value("return a + b + c + d + e + f;", "1 2 3"), 0);
        CHECK.due("a return ends it", Check.value("return 1; return 2;", "0 0 0"), 1);
        CHECK.due("variables are kept", Check.value("a = x; b = a + y; return b * a;", "2 3 0"), 10);
        CHECK.due("each run begins anew", Check.told("a = a + 1; return a;", "test 0 0 0 gives 1;test 0 0 0 gives 1")
                .count(4), 2);
        ProgramMender m = Check.told("return x;", "test 4 0 0 gives 4;test 4 0 0 gives 5;test 4 0 0 gives 4 held");
        CHECK.dueRow("run 0", Check.run(m, 0), 0, 4, 1, 1);
        CHECK.dueRow("run 1", Check.run(m, 1), 0, 4, 1, 0);
        CHECK.dueRow("run 2", Check.run(m, 2), 0, 4, 1, 1);
        CHECK.due("a negative return", Check.value("return -x;", "1 0 0"), -1);
    }

    private static void arithmetic() {
        CHECK.due("towards 0", Check.value("return x / y;", "-7 2 0"), -3);
        CHECK.due("what that leaves", Check.value("return x % y;", "-7 2 0"), -1);
        CHECK.due("rest by a negative", Check.value("return x % y;", "7 -2 0"), 1);
        CHECK.due("left first", Check.value("return x - y - z;", "10 3 2"), 5);
        CHECK.due("times binds more", Check.value("return x + y * z;", "1 2 3"), 7);
        CHECK.due("brackets", Check.value("return (x + y) * z;", "1 2 3"), 9);
        CHECK.due("minus binds most", Check.value("return -x * y;", "2 3 0"), -6);
        CHECK.due("minus of brackets", Check.value("return -(x - y);", "2 5 0"), 3);
        CHECK.due("compares are numbers", Check.value("return (x < y) + (x < y) * 2;", "1 2 0"), 3);
        CHECK.due("it wraps", Check.value("a = 999 * 999 * 999; return a * 999 + 1;", "0 0 0"), 999 * 999 * 999 * 999 + 1);
        CHECK.due("the least by -1", Check.value("a = 64 * 64 * 64 * 64 * 64; a = a + a; return a / -1;", "0 0 0"),
                Integer.MIN_VALUE);
        CHECK.due("its rest", Check.value("a = 64 * 64 * 64 * 64 * 64; a = a + a; return a % -1;", "0 0 0"), 0);
        CHECK.due("the least negated", Check.value("a = 64 * 64 * 64 * 64 * 64; a = a + a; return -a;", "0 0 0"),
                Integer.MIN_VALUE);
    }

    private static void compares() {
        String[] signs = {"<", "<=", "==", "!=", ">", ">="};
        int[][] due = {{1, 0, 0}, {1, 1, 0}, {0, 1, 0}, {1, 0, 1}, {0, 0, 1}, {0, 1, 1}};
        String[] inputs = {"1 2 0", "2 2 0", "3 2 0"};
        for (int i = 0; i < signs.length; i++) {
            for (int k = 0; k < inputs.length; k++) {
                CHECK.due(signs[i] + " of " + inputs[k], Check.value("return x " + signs[i] + " y;", inputs[k]), due[i][k]);
            }
        }
    }

    private static void crashes() {
        ProgramMender m = Check.told("a = 1; b = x / y; return 3;", "test 4 0 0 gives 0;test 4 2 0 gives 3");
        CHECK.dueRow("a crash", Check.run(m, 0), 1, 0, 2, 0);
        CHECK.dueRow("no crash", Check.run(m, 1), 0, 3, 3, 1);
        CHECK.due("the step that crashes is done", m.done(0, 2), 1);
        CHECK.due("it is traced", m.trace(0, 1), 2);
        CHECK.due("nothing comes behind", m.trace(0, 2), -1);
        CHECK.due("rest by 0", Check.told("return x % y;", "test 4 0 0 gives 0").run(0, 0), 1);
        CHECK.due("both sides are worked out", Check.told("return 0 * (1 / 0);", "test 0 0 0 gives 0").run(0, 0), 1);
        CHECK.due("0 by something", Check.told("return 0 / 5;", "test 0 0 0 gives 0").run(0, 0), 0);
        CHECK.due("a condition crashes", Check.told("if 1 / x { } return 2;", "test 0 0 0 gives 2").run(0, 0), 1);
    }

    private static void hangs() {
        ProgramMender m = Check.told("while 1 { }", "test 0 0 0 gives 0");
        CHECK.dueRow("for ever", Check.run(m, 0), 2, 0, 300, 0);
        CHECK.due("done 300 times", m.done(0, 0), 300);
        CHECK.due("the last step", m.trace(0, 299), 0);
        CHECK.due("no 301st", m.trace(0, 300), -1);
        ProgramMender last = Check.told("while a < x { a = a + 1; } return a;", "test 149 0 0 gives 149;test 150 0 0 gives 150");
        CHECK.dueRow("300 steps", Check.run(last, 0), 0, 149, 300, 1);
        CHECK.dueRow("a 301st step, the asking", Check.run(last, 1), 2, 0, 300, 0);
        ProgramMender end = Check.told("b = 1; while a < x { a = a + 1; } ", "test 149 0 0 gives 0;test 150 0 0 gives 0");
        CHECK.dueRow("300 steps and the end", Check.run(end, 0), 0, 0, 300, 1);
        CHECK.dueRow("and no more", Check.run(end, 1), 2, 0, 300, 0);
    }

    private static void ways() {
        String text = "if x { if y { a = 1; } else { } } else { a = 3; while z { z = z - 1; } } return a;";
        ProgramMender m = Check.told(text, "test 1 1 0 gives 1;test 1 0 0 gives 0;test 0 0 2 gives 3");
        CHECK.due("all pass", m.count(4), 3);
        trace(m, 0, 0, 2, 4, 14);
        trace(m, 1, 0, 2, 14);
        trace(m, 2, 0, 6, 8, 10, 8, 10, 8, 14);
        ProgramMender empty = Check.told("if x { } else { a = 1; } while y { } return a;", "test 1 0 0 gives 0;test 0 0 0 gives 1");
        CHECK.due("empty blocks", empty.count(4), 2);
        ProgramMender nested = Check.told("while x { x = x - 1; if y { } else { z = z + 1; } } return z;",
                "test 3 0 0 gives 3;test 3 1 0 gives 0");
        CHECK.due("back to the while from an if", nested.count(4), 2);
    }

    private static void counts() {
        ProgramMender m = Check.told("while x > 0 { x = x - 1; } return 7;", "test 3 0 0 gives 7");
        CHECK.due("askings", m.done(0, 0), 4);
        CHECK.due("in the block", m.done(0, 4), 3);
        CHECK.due("behind", m.done(0, 8), 1);
        CHECK.due("no statement", m.done(0, 1), -1);
        CHECK.due("steps", m.run(0, 2), 8);
        m.take(4, 0);
        CHECK.due("left out: not done", m.done(0, 4), 0);
        CHECK.due("left out: no step", m.trace(0, 1), 0);
        m.undo();
        m.take(0, 1);
        CHECK.due("left out: the while", m.run(0, 2), 1);
    }

    private static void refused() {
        ProgramMender m = Check.told("return 1;", "test 0 0 0 gives 1");
        CHECK.due("run what", m.run(0, 4), -1);
        CHECK.due("run what below", m.run(0, -1), -1);
        CHECK.due("run test", m.run(1, 0), -1);
        CHECK.due("run test below", m.run(-1, 0), -1);
        CHECK.due("done test", m.done(1, 0), -1);
        CHECK.due("done node", m.done(0, 2), -1);
        CHECK.due("done node below", m.done(0, -1), -1);
        CHECK.due("trace k", m.trace(0, 1), -1);
        CHECK.due("trace k below", m.trace(0, -1), -1);
        CHECK.due("trace test", m.trace(16, 0), -1);
        ProgramMender none = new ProgramMender();
        Check.tests(none, "test 0 0 0 gives 0");
        CHECK.due("no program", none.run(0, 3), -1);
        CHECK.due("no program, nothing passes", none.count(4), 0);
        CHECK.due("no program, no trace", none.trace(0, 0), -1);
        CHECK.due("no program, no flip", none.flip(0), -1);
    }

    private static void trace(ProgramMender m, int test, int... want) {
        CHECK.due("steps of " + test, m.run(test, 2), want.length);
        for (int k = 0; k < want.length; k++) {
            CHECK.due("trace(" + test + ", " + k + ")", m.trace(test, k), want[k]);
        }
    }
}
