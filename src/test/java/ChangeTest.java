/** Promises 13 and 14: the changes of a node and what comes of them. */
public final class ChangeTest {
    private static final Check CHECK = new Check();

    public static void main(String[] args) {
        numbers();
        variables();
        signs();
        statements();
        minus();
        passing();
        refused();
        CHECK.end();
    }

    private static void numbers() {
        ProgramMender m = Check.told("return 2;", "test 0 0 0 gives 3");
        CHECK.dueChanges(m, 1, 3, 1, 0);
        m.take(1, 1);
        CHECK.dueChanges(m, 1, 2, 0);
        m.take(1, 1);
        CHECK.dueChanges(m, 1, 1, -1);
        m.take(1, 1);
        CHECK.dueChanges(m, 1, 0, -2);
        m.take(1, 1);
        CHECK.dueChanges(m, 1, -1, -3, 0);
        CHECK.dueChanges(Check.told("return 999;", "test 0 0 0 gives 3"), 1, 1000, 998, 0);
    }

    private static void variables() {
        ProgramMender m = Check.told("f = z; return a + y;", "test 0 0 0 gives 3");
        CHECK.dueChanges(m, 1, 1, 3, 8);
        CHECK.dueChanges(m, 4, 1, 2, 8);
        CHECK.dueChanges(m, 5, 2, 3, 8);
        m.take(1, 0);
        CHECK.dueChanges(m, 1, 2, 3, 8);
        CHECK.due("variables as told", m.count(6), 4);
        CHECK.due("the one that is set has none", m.changes(0), 1);
        CHECK.dueChanges(Check.told("return x;", "test 0 0 0 gives 3"), 1);
        CHECK.dueChanges(Check.told("a = b; c = d; e = f; x = y + z;", "test 0 0 0 gives 3"), 1, 0, 1, 2, 3, 5, 6, 7, 8);
    }

    private static void signs() {
        CHECK.dueChanges(Check.told("return x + y;", "test 0 0 0 gives 3"), 1, 1, 2, 3, 4);
        CHECK.dueChanges(Check.told("return x - y;", "test 0 0 0 gives 3"), 1, 0, 2, 3, 4, -100);
        CHECK.dueChanges(Check.told("return x * y;", "test 0 0 0 gives 3"), 1, 0, 1, 3, 4);
        CHECK.dueChanges(Check.told("return x / y;", "test 0 0 0 gives 3"), 1, 0, 1, 2, 4, -100);
        CHECK.dueChanges(Check.told("return x % y;", "test 0 0 0 gives 3"), 1, 0, 1, 2, 3, -100);
        CHECK.dueChanges(Check.told("return x < y;", "test 0 0 0 gives 3"), 1, 6, 7, 8, 9, 10);
        CHECK.dueChanges(Check.told("return x == y;", "test 0 0 0 gives 3"), 1, 5, 6, 8, 9, 10);
        CHECK.dueChanges(Check.told("return x >= y;", "test 0 0 0 gives 3"), 1, 5, 6, 7, 8, 9);
        ProgramMender m = Check.told("return x - y;", "test 7 2 0 gives -5");
        CHECK.due("the places change", m.change(1, 4, 0), 1);
        CHECK.due("as it is", m.run(0, 1), 5);
        m.take(1, 4);
        CHECK.due("changed", m.run(0, 1), -5);
        m.take(1, 2);
        CHECK.due("it stays changed with another sign", m.node(1, 4), 3);
        CHECK.due("the sign", m.node(1, 1), 3);
        CHECK.due("y by x", m.run(0, 1), 0);
        m.take(1, 4);
        CHECK.due("twice is as at first", m.node(1, 4), 0);
        CHECK.due("x by y", m.run(0, 1), 3);
        m.take(1, 0);
        CHECK.due("of + there are no places to change", m.changes(1), 4);
    }

    private static void statements() {
        ProgramMender m = Check.told("a = 1; if x { a = 2; } while x { x = 0; a = a + 3; } return a;",
                "test 0 0 0 gives 5;test 1 0 0 gives 2;test 1 0 0 gives 4;test 1 0 0 gives 0;test 0 0 0 gives 4");
        CHECK.dueChanges(m, 0, -100);
        CHECK.dueChanges(m, 2, -100, -100);
        CHECK.dueChanges(m, 6, -100, -100);
        CHECK.dueChanges(m, 14, -100);
        CHECK.due("denied if: 0 gives 2, 1 gives 4", m.change(2, 0, 0), 1);
        CHECK.due("if left out: 1 gives 4", m.change(2, 1, 0), 1);
        CHECK.due("while left out: 1 gives 2", m.change(6, 1, 0), 1);
        CHECK.due("return left out: 0", m.change(14, 0, 0), 1);
        CHECK.due("denied while: hangs", m.change(6, 0, 0), 1);
    }

    private static void minus() {
        ProgramMender m = Check.told("return -(-2);", "test 0 0 0 gives -2");
        CHECK.dueChanges(m, 1, -100);
        CHECK.dueChanges(m, 2, -100);
        CHECK.dueChanges(m, 3, 3, 1, 0);
        CHECK.due("with one", m.change(1, 0, 0), 1);
        m.take(1, 0);
        CHECK.dueChanges(m, 1);
        CHECK.dueChanges(m, 2, -100);
        CHECK.dueChanges(m, 3, 3, 1, 0);
        CHECK.due("one is left", m.run(0, 1), -2);
        m.take(2, 0);
        CHECK.dueChanges(m, 2);
        CHECK.due("none is left", m.run(0, 1), 2);
    }

    private static void passing() {
        ProgramMender m = Check.told("return x + y;", "test 2 2 0 gives 4;test 3 2 0 gives 6;test 4 2 0 gives 8 held;"
                + "test 4 2 0 gives 2 held");
        CHECK.due("times: shown", m.change(1, 1, 0), 2);
        CHECK.due("times: held", m.change(1, 1, 1), 1);
        CHECK.due("times: a mend", m.change(1, 1, 2), 1);
        CHECK.due("minus: shown", m.change(1, 0, 0), 0);
        CHECK.due("minus: held", m.change(1, 0, 1), 1);
        CHECK.due("minus: no mend", m.change(1, 0, 2), 0);
        CHECK.due("as it is", m.count(4), 1);
        CHECK.due("the sign is as it was", m.node(1, 1), 0);
        Check.tests(m, "test 2 2 0 gives 4");
        CHECK.due("nothing to mend", m.change(1, 1, 2), 0);
        Check.tests(m, "test 3 2 0 gives 6 held");
        CHECK.due("nothing is shown", m.change(1, 1, 2), 0);
        CHECK.due("shown ones", m.change(1, 1, 0), 0);
        CHECK.due("held ones", m.change(1, 1, 1), 1);
        ProgramMender untested = new ProgramMender();
        Check.program(untested, "return x + y;");
        CHECK.due("no tests", untested.change(1, 1, 0), 0);
        CHECK.due("no tests, no mend", untested.change(1, 1, 2), 0);
    }

    private static void refused() {
        ProgramMender m = Check.told("return 2;", "test 0 0 0 gives 3");
        CHECK.due("changes of none", m.changes(2), -1);
        CHECK.due("changes below", m.changes(-1), -1);
        CHECK.due("change of none", m.change(2, 0, 0), -200);
        CHECK.due("no such change", m.change(1, 3, 0), -200);
        CHECK.due("change below", m.change(1, -1, 3), -200);
        CHECK.due("what", m.change(1, 0, 4), -200);
        CHECK.due("what below", m.change(1, 0, -1), -200);
        CHECK.due("node below", m.change(-1, 0, 0), -200);
        m.take(0, 0);
        CHECK.due("left out", m.changes(0), 0);
        CHECK.due("in what is left out", m.changes(1), 0);
        CHECK.due("no change there", m.change(1, 0, 3), -200);
    }
}
