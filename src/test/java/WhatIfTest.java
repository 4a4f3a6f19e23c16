/** Promises 19 to 21: values of a number, forced conditions, flipped askings. */
public final class WhatIfTest {
    private static final Check CHECK = new Check();

    public static void main(String[] args) {
        values();
        valuesAtEdges();
        valuesRefused();
        forced();
        forcedRefused();
        flip();
        flipRefused();
        CHECK.end();
    }

    private static void values() {
        ProgramMender m = Check.told("if x < 10 { return 1; } return 2;", "test 4 0 0 gives 1;test 20 0 0 gives 2");
        CHECK.dueRow("5 to 20", Check.values(m, 3), 16, 5, 20, 10);
        CHECK.due("it stays", m.node(3, 1), 10);
        CHECK.dueRow("1 alone", Check.values(m, 5), 1, 1, 1, 1);
        Check.tests(m, "test 12 0 0 gives 1");
        CHECK.dueRow("13 and more", Check.values(m, 3), 87, 13, 99, 13);
        CHECK.dueRow("not done: none", Check.values(m, 5), 0, -200, -200, -200);
        Check.tests(m, "test 12 0 0 gives 1 held");
        CHECK.dueRow("without shown tests all", Check.values(m, 3), 199, -99, 99, 10);
    }

    private static void valuesAtEdges() {
        ProgramMender big = Check.told("return 500 < x;", "test 0 0 0 gives 0");
        CHECK.dueRow("nearest to what is beyond", Check.values(big, 2), 100, 0, 99, 99);
        ProgramMender two = Check.told("a = 3; return a * a - 6 * a;", "test 0 0 0 gives 16");
        CHECK.dueRow("of two the lesser", Check.values(two, 1), 2, -2, 8, -2);
        ProgramMender crash = Check.told("return 1 / 0 == 0;", "test 0 0 0 gives 1");
        CHECK.dueRow("by 0, 1, -1 not", Check.values(crash, 4), 196, -99, 99, -2);
        ProgramMender none = Check.told("return 7 * x;", "test 2 0 0 gives 3");
        CHECK.dueRow("none", Check.values(none, 2), 0, -200, -200, -200);
        ProgramMender untested = new ProgramMender();
        Check.program(untested, "return 150;");
        CHECK.dueRow("no tests at all", Check.values(untested, 1), 199, -99, 99, 99);
        ProgramMender taken = Check.told("return 7 < x;", "test 5 0 0 gives 1");
        CHECK.due("nearest", taken.values(2, 3), 4);
        taken.take(2, 2);
        CHECK.due("nearest to what it is now", taken.values(2, 3), 0);
        ProgramMender minus = Check.told("return -7;", "test 0 0 0 gives 9");
        CHECK.due("behind a minus", minus.values(2, 1), -9);
        minus.take(1, 0);
        CHECK.due("behind one that is left out", minus.values(2, 1), 9);
    }

    private static void valuesRefused() {
        ProgramMender m = Check.told("a = 1; return x;", "test 0 0 0 gives 0");
        CHECK.due("what", m.values(1, 4), -200);
        CHECK.due("what below", m.values(1, -1), -200);
        CHECK.due("a statement", m.values(0, 0), -200);
        CHECK.due("a variable", m.values(3, 0), -200);
        CHECK.due("no node", m.values(4, 0), -200);
        CHECK.due("below", m.values(-1, 0), -200);
        CHECK.due("a number", m.values(1, 0), 199);
        m.take(0, 0);
        CHECK.due("left out", m.values(1, 0), -200);
    }

    private static void forced() {
        ProgramMender m = Check.told("if x < 3 { return 1; } return 2;",
                "test 0 0 0 gives 1;test 1 0 0 gives 2;test 9 0 0 gives 1;test 9 0 0 gives 1 held");
        CHECK.due("so", m.forced(0, true), 2);
        CHECK.due("not so", m.forced(0, false), 1);
        CHECK.due("as it is", m.count(4), 1);
        m.take(0, 0);
        CHECK.due("denied: so all the same", m.forced(0, true), 2);
        CHECK.due("denied: not so all the same", m.forced(0, false), 1);
        ProgramMender loop = Check.told("while x { x = x - 1; if x == 2 { return 5; } } return x;",
                "test 3 0 0 gives 5;test 1 0 0 gives 0;test 4 0 0 gives 4");
        CHECK.due("a while: so", loop.forced(0, true), 1);
        CHECK.due("a while: not so", loop.forced(0, false), 1);
        CHECK.due("an if in it", loop.forced(6, true), 1);
        ProgramMender crash = Check.told("if 1 / x { } return 7;", "test 0 0 0 gives 7;test 1 0 0 gives 7");
        CHECK.due("it is worked out all the same", crash.forced(0, true), 1);
        CHECK.due("also when not so", crash.forced(0, false), 1);
    }

    private static void forcedRefused() {
        ProgramMender m = Check.told("if x { while y { y = 0; } } return 2;", "test 0 0 0 gives 2");
        CHECK.due("if", m.forced(0, true), 1);
        CHECK.due("its condition", m.forced(1, true), -1);
        CHECK.due("an assignment", m.forced(4, true), -1);
        CHECK.due("a return", m.forced(6, false), -1);
        CHECK.due("none", m.forced(8, false), -1);
        CHECK.due("below", m.forced(-1, false), -1);
        m.take(0, 1);
        CHECK.due("left out", m.forced(0, true), -1);
        CHECK.due("in what is left out", m.forced(2, true), -1);
    }

    private static void flip() {
        String text = "while x > 0 { x = x - 1; if x == y { a = a + 10; } } return a;";
        ProgramMender m = Check.told(text, "test 3 9 0 gives 10;test 3 9 0 gives 20;test 3 1 0 gives 0;test 3 1 0 gives 10;"
                + "test 2 0 0 gives 0 held");
        CHECK.due("the if of the first round", m.flip(0), 1);
        CHECK.due("one alone does not do", m.flip(1), -2);
        CHECK.due("the while ahead of it", m.flip(2), 0);
        CHECK.due("it passes", m.flip(3), -1);
        CHECK.due("a held one", m.flip(4), 0);
        ProgramMender later = Check.told(text, "test 3 0 0 gives 0");
        CHECK.due("leaving at once", later.flip(0), 0);
        ProgramMender last = Check.told("if x { a = 1; } while z { z = z - 1; b = b + 1; } return a * 10 + b;",
                "test 1 0 2 gives 11");
        CHECK.due("the third asking", last.flip(0), 2);
        ProgramMender once = Check.told("while a < 2 { a = a + 1; } return a;", "test 0 0 0 gives 3");
        CHECK.due("one round more", once.flip(0), 2);
        ProgramMender crash = Check.told("if x { return 1; } if 1 / x { } return 3;", "test 0 0 0 gives 1;test 0 0 0 gives 3");
        CHECK.due("a run that crashes", crash.flip(0), 0);
        CHECK.due("what crashes does not come out", crash.flip(1), -2);
        ProgramMender hang = Check.told("while 1 { a = a + 1; } return a;", "test 0 0 0 gives 149;test 0 0 0 gives 150");
        CHECK.due("a run that hangs", hang.flip(0), 149);
        CHECK.due("behind the last step", hang.flip(1), -2);
        ProgramMender denied = Check.told("if x { return 1; } return 2;", "test 0 0 0 gives 2");
        denied.take(0, 0);
        CHECK.due("denied", denied.flip(0), 0);
    }

    private static void flipRefused() {
        ProgramMender m = Check.told("return 1;", "test 0 0 0 gives 2");
        CHECK.due("no askings", m.flip(0), -2);
        CHECK.due("no such test", m.flip(1), -1);
        CHECK.due("below", m.flip(-1), -1);
        CHECK.due("greatest", m.flip(Integer.MAX_VALUE), -1);
    }
}
