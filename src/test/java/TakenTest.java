/** Promises 22 to 24: changes taken and taken back, and counts. */
public final class TakenTest {
    private static final Check CHECK = new Check();

    public static void main(String[] args) {
        takeAndUndo();
        twice();
        twenty();
        within();
        counts();
        refused();
        CHECK.end();
    }

    private static void takeAndUndo() {
        ProgramMender m = Check.told("a = x; if a > 5 { return a - y; } return -a;", "test 6 1 0 gives 7;test 2 0 0 gives 2");
        CHECK.due("a sign", m.take(7, 0), 1);
        CHECK.due("a minus", m.take(11, 0), 2);
        CHECK.due("all pass", m.count(4), 2);
        CHECK.due("no mend or not: a number", m.take(5, 1), 3);
        CHECK.due("the number", m.node(5, 1), 4);
        CHECK.due("a variable", m.take(1, 0), 4);
        CHECK.due("y", m.node(1, 1), 1);
        CHECK.due("x again", m.change(1, 0, 3), 0);
        CHECK.due("runs are as all is now", m.run(0, 1), 1);
        CHECK.due("back", m.undo(), 3);
        CHECK.due("x", m.node(1, 1), 0);
        CHECK.due("back", m.undo(), 2);
        CHECK.due("the number as told", m.node(5, 1), 5);
        CHECK.due("back", m.undo(), 1);
        CHECK.due("the minus is there", m.node(11, 4), 0);
        CHECK.due("back", m.undo(), 0);
        CHECK.due("the sign as told", m.node(7, 1), 1);
        CHECK.due("no more", m.undo(), -1);
        CHECK.due("the run as at first", m.run(0, 1), 5);
    }

    private static void twice() {
        ProgramMender m = Check.told("while x - y { return 1; } return 2;", "test 1 1 0 gives 1");
        CHECK.due("deny", m.take(0, 0), 1);
        CHECK.due("denied", m.node(0, 4), 2);
        CHECK.due("it passes", m.run(0, 3), 1);
        CHECK.due("deny again", m.take(0, 0), 2);
        CHECK.due("as at first", m.node(0, 4), 0);
        CHECK.due("it fails", m.run(0, 3), 0);
        CHECK.due("change places", m.take(1, 4), 3);
        CHECK.due("changed", m.node(1, 4), 3);
        CHECK.due("again", m.take(1, 4), 4);
        CHECK.due("as at first", m.node(1, 4), 0);
        m.undo();
        CHECK.due("changed", m.node(1, 4), 3);
    }

    private static void twenty() {
        ProgramMender m = Check.told("return 5;", "test 0 0 0 gives 25");
        for (int i = 1; i <= 20; i++) {
            CHECK.due("take " + i, m.take(1, 0), i);
        }
        CHECK.due("a 21st", m.take(1, 0), -1);
        CHECK.due("20 are", m.count(7), 20);
        CHECK.due("it passes", m.run(0, 3), 1);
        CHECK.due("one back", m.undo(), 19);
        CHECK.due("24", m.node(1, 1), 24);
        CHECK.due("one more again", m.take(1, 1), 20);
        CHECK.due("23", m.node(1, 1), 23);
        for (int i = 19; i >= 0; i--) {
            CHECK.due("undo to " + i, m.undo(), i);
        }
        CHECK.due("5", m.node(1, 1), 5);
    }

    private static void within() {
        ProgramMender m = Check.told("if x { a = -4; if y { a = 2; } else { a = 3; } } return a;", "test 1 0 0 gives 0");
        int all = m.count(9);
        m.take(3, 0);
        CHECK.due("a minus less", m.count(9), all - 1);
        m.take(5, 1);
        CHECK.due("an if with its blocks less", m.count(9), all - 1 - 2 - 2 - 1 - 3 - 1 - 3);
        CHECK.due("-4 without its minus", m.run(0, 1), 4);
        m.take(0, 1);
        CHECK.due("return and a variable are left", m.count(9), 1 + 2);
        CHECK.due("it passes", m.run(0, 3), 1);
        CHECK.due("nothing within is taken", m.take(2, 0), -1);
        CHECK.due("nor the statement again", m.take(0, 0), -1);
        m.undo();
        m.undo();
        m.undo();
        CHECK.due("all as told", m.count(9), all);
    }

    private static void counts() {
        ProgramMender m = Check.told("a = x; if a { y = 1; } return y;",
                "test 1 0 0 gives 1;test 1 0 0 gives 2;test 0 5 0 gives 5 held;test 0 5 0 gives 6 held;test 0 4 0 gives 4 held");
        int[] due = {8, 4, 5, 3, 1, 2, 3, 0, 0, 1 + 2 + 2 + 2 + 1 + 2 + 1 + 2};
        for (int what = 0; what < due.length; what++) {
            CHECK.due("count(" + what + ")", m.count(what), due[what]);
        }
        m.feed(0, 0, 0, 0, 0);
        CHECK.due("bytes", m.count(8), 20);
        m.take(1, 1);
        CHECK.due("taken", m.count(7), 1);
        CHECK.due("variables as told", m.count(6), 3);
        CHECK.due("another what", m.count(10), -1);
        CHECK.due("what below", m.count(-1), -1);
        ProgramMender tests = new ProgramMender();
        Check.tests(tests, "test 0 0 0 gives 0;test 0 0 0 gives 0 held");
        CHECK.due("tests without a program", tests.count(2), 2);
        CHECK.due("none passes without one", tests.count(4) + tests.count(5), 0);
        CHECK.due("held without one", tests.count(3), 1);
    }

    private static void refused() {
        ProgramMender m = Check.told("return 5;", "test 0 0 0 gives 25");
        CHECK.due("no node", m.take(2, 0), -1);
        CHECK.due("node below", m.take(-1, 0), -1);
        CHECK.due("no change", m.take(1, 3), -1);
        CHECK.due("change below", m.take(1, -1), -1);
        CHECK.due("none is taken", m.count(7), 0);
        CHECK.due("none to take back", m.undo(), -1);
    }
}
