/** Promises 15 to 18: mends, which of them are alike, the best one, the pair. */
public final class MendTest {
    private static final Check CHECK = new Check();

    public static void main(String[] args) {
        byNodesAndChanges();
        byRank();
        alike();
        alikeByHowTheyEnd();
        best();
        nothingToMend();
        mendOfAHang();
        pairOfAHang();
        pair();
        pairIsFirst();
        pairAmongSuspects();
        pairAndState();
        refused();
        CHECK.end();
    }

    private static void byNodesAndChanges() {
        ProgramMender m = Check.told("return x + 3;", "test 2 0 0 gives 6;test 5 0 0 gives 15 held");
        CHECK.due("how many", m.mend(-1, 0), 2);
        CHECK.dueRow("x * 3", Check.mend(m, 0), 1, 1, 1, 0, 0);
        CHECK.dueRow("x + 4", Check.mend(m, 1), 3, 0, 0, 1, 1);
        CHECK.due("unlike", m.unlike(), 2);
        CHECK.due("best", m.best(), 0);
    }

    private static void byRank() {
        ProgramMender m = Check.told("a = 4; if x { a = a + 1; } return a;", "test 1 0 0 gives 6;test 0 0 0 gives 4");
        CHECK.due("first by rank", m.suspect(1, 0), 4);
        CHECK.due("how many", m.mend(-1, -7), 1);
        CHECK.dueRow("a + 2", Check.mend(m, 0), 7, 0, 0, 0, 0);
        Check.tests(m, "test 1 0 0 gives 6");
        CHECK.due("how many now", m.mend(-1, 0), 2);
        CHECK.due("all statements of one rank", m.suspect(1, 0), 0);
        CHECK.due("by nodes", m.mend(0, 0), 1);
        CHECK.due("the number of the block", m.mend(1, 0), 7);
        Check.tests(m, "test 1 0 0 gives 6;test 0 0 0 gives 9 held;test 0 0 0 gives 4;test 2 0 0 gives 6");
        CHECK.due("the block's statement is ahead again", m.mend(0, 0), 7);
    }

    private static void alike() {
        ProgramMender m = Check.told("if x > 3 { return 1; } return 0;",
                "test 3 0 0 gives 1;test 9 0 0 gives 1;test 2 0 0 gives 1 held");
        CHECK.due("how many", m.mend(-1, 0) > 3 ? 1 : 0, 1);
        int kinds = 0;
        for (int k = 0; k < m.mend(-1, 0); k++) {
            int first = m.mend(k, 4);
            CHECK.due("the first of its kind comes before " + k, first <= k ? 1 : 0, 1);
            CHECK.due("it is the first itself", m.mend(first, 4), first);
            CHECK.due("alike in held tests", m.mend(first, 2), m.mend(k, 2));
            CHECK.due("overfit " + k, m.mend(k, 3), 1 - m.mend(k, 2));
            kinds += first == k ? 1 : 0;
        }
        CHECK.due("unlike", m.unlike(), kinds);
        CHECK.due("of two kinds", kinds, 2);
    }

    private static void alikeByHowTheyEnd() {
        ProgramMender m = Check.told("return y / x;", "test 1 5 0 gives -4;test 0 3 0 gives 7 held");
        CHECK.due("no mend", m.mend(-1, 0), 0);
        Check.tests(m, "test 2 4 0 gives 8;test 0 3 0 gives 0 held;test 5 5 0 gives 25 held");
        CHECK.due("one mend", m.mend(-1, 0), 1);
        CHECK.dueRow("times", Check.mend(m, 0), 1, 2, 2, 0, 0);
        ProgramMender ends = Check.told("a = 0; return y / a;", "test 1 0 0 gives 0;test 0 1 0 gives 9 held");
        CHECK.due("several mends", ends.mend(-1, 0), 6);
        CHECK.due("kinds: 1, -1, 0", ends.unlike(), 3);
        ProgramMender crash = Check.told("return x - y;", "test 2 1 0 gives 2;test 4 1 0 gives 4 held");
        CHECK.due("times, by", crash.mend(-1, 0), 2);
        CHECK.due("they are alike", crash.unlike(), 1);
        Check.tests(crash, "test 2 1 0 gives 2;test 0 0 0 gives 9 held");
        CHECK.due("with one of them it crashes", crash.unlike(), 2);
        CHECK.due("so they are not alike", crash.mend(1, 4), 1);
        Check.tests(crash, "test 0 0 0 gives 9 held;test 2 1 0 gives 2");
        CHECK.due("nor if that test is the first", crash.unlike(), 2);
    }

    private static void best() {
        ProgramMender m = Check.told("return x + 2;", "test 4 0 0 gives 8;test 5 0 0 gives 9 held;test 6 0 0 gives 10 held");
        CHECK.due("how many", m.mend(-1, 0), 1);
        CHECK.dueRow("times is overfit", Check.mend(m, 0), 1, 1, 0, 1, 0);
        CHECK.due("the best is overfit", m.best(), 0);
        ProgramMender later = Check.told("return x + 3;", "test 2 0 0 gives 6;test 5 0 0 gives 9 held");
        CHECK.due("a later one", later.best(), 1);
        Check.tests(later, "test 2 0 0 gives 6");
        CHECK.due("of equal ones the first", later.best(), 0);
        CHECK.due("without held ones none is overfit", later.mend(0, 3), 0);
        CHECK.due("without held ones all are alike", later.unlike(), 1);
        CHECK.due("the second is like the first", later.mend(1, 4), 0);
    }

    private static void nothingToMend() {
        ProgramMender m = Check.told("return x + 3;", "test 2 0 0 gives 5;test 2 0 0 gives 6 held");
        CHECK.due("all shown pass", m.mend(-1, 0), 0);
        CHECK.due("best", m.best(), -1);
        CHECK.due("unlike", m.unlike(), 0);
        CHECK.due("pair", m.pair(0), -2);
        Check.tests(m, "test 2 0 0 gives 6 held");
        CHECK.due("none is shown", m.mend(-1, 0), 0);
        Check.tests(m, "test 2 0 0 gives 6");
        CHECK.due("shown now", m.mend(-1, 0), 2);
        CHECK.due("there is a mend: no pair", m.pair(0), -2);
        m.take(1, 1);
        CHECK.due("mended", m.mend(-1, 0), 0);
        m.undo();
        CHECK.due("taken back", m.mend(-1, 0), 2);
    }

    /** The 301st step is not done, but left out it is no step: so a run that hangs there ends. */
    private static void mendOfAHang() {
        String hang = "a = 0; while x { x = x - 1; } return 7;";
        ProgramMender m = Check.told(hang, "test 149 0 0 gives 0;test 149 0 0 gives 0 held;test 148 0 0 gives 7 held");
        CHECK.due("the return is not done", m.done(0, 8), 0);
        CHECK.due("how many", m.mend(-1, 0), 1);
        CHECK.dueRow("the return is left out", Check.mend(m, 0), 8, 0, 1, 1, 0);
        CHECK.due("unlike", m.unlike(), 1);
        CHECK.due("best", m.best(), 0);
        CHECK.due("a mend, so no pair", m.pair(0), -2);
        CHECK.due("no value of what is not done mends", m.values(9, 0), 0);
        m.take(8, 0);
        CHECK.dueRow("it ends", Check.run(m, 0), 0, 0, 300, 1);
        m.undo();
        Check.tests(m, "test 150 0 0 gives 0");
        CHECK.due("two steps more: an asking would be the 301st", m.change(8, 0, 2), 0);
        ProgramMender block = Check.told("while x { x = x - 1; } if z { return 7; } else { a = 1; }", "test 149 0 1 gives 0");
        CHECK.dueRow("an if that is done", Check.mend(block, 0), 6, 1, 0, 0, 0);
        CHECK.dueRow("a return in its block, ranked behind", Check.mend(block, 1), 8, 0, 0, 0, 0);
        CHECK.due("of a hang some statements ahead none", Check.told("while x { x = x - 1; } b = 1; a = 1; return 7;",
                "test 149 0 0 gives 0").mend(-1, 0), 0);
        ProgramMender asked = Check.told("a = 0; while x { x = x - 1; } if y { return 7; }", "test 149 1 0 gives 0");
        CHECK.due("an if", asked.mend(-1, 0), 1);
        CHECK.dueRow("is left out with its block", Check.mend(asked, 0), 8, 1, 0, 0, 0);
        ProgramMender some = Check.told("if y { return 8; } while x { x = x - 1; } return 7;",
                "test 149 0 0 gives 0;test 0 0 0 gives 0");
        CHECK.dueRow("one fails as it hangs, one as it returns", Check.mend(some, 0), 10, 0, 0, 0, 0);
    }

    private static void pairOfAHang() {
        ProgramMender m = Check.told("if y { return 6; } while x { x = x - 1; } return 7;",
                "test 149 0 0 gives 0;test 0 1 0 gives 5;test 149 0 0 gives 0 held");
        CHECK.due("no mend", m.mend(-1, 0), 0);
        CHECK.dueRow("the greater node is left out", Check.pair(m), 3, 1, 10, 0, 1);
        ProgramMender lesser = Check.told("if y { while x { x = x - 1; } return 7; } else { return 6; }",
                "test 149 1 0 gives 0;test 0 0 0 gives 5");
        CHECK.due("no mend here either", lesser.mend(-1, 0), 0);
        CHECK.dueRow("the lesser node is left out", Check.pair(lesser), 8, 0, 11, 1, 0);
        ProgramMender both = Check.told("a = 0; while x { x = x - 1; } b = y; return y + 7;", "test 149 3 0 gives 0");
        CHECK.due("no mend of two statements too many", both.mend(-1, 0), 0);
        CHECK.dueRow("the one ahead of the loop may go as well", Check.pair(both), 0, 0, 10, 0, 0);
        ProgramMender behind = Check.told("while a < x + y { a = a + 1; } if a + a - 298 { return 7; } else { b = 1; c = 1; }",
                "test 100 49 0 gives 0;test 3 0 0 gives 7");
        CHECK.due("neither is done", behind.done(0, 18) + behind.done(0, 20), 0);
        CHECK.dueRow("each without the other would be the 301st", Check.pair(behind), 18, 0, 20, 0, 0);
    }

    private static void pair() {
        ProgramMender m = Check.told("return x + 3 - y;", "test 5 2 0 gives 17;test 1 1 0 gives 4;test 4 1 0 gives 13;test 2 3 0 gives 9 held");
        CHECK.due("no mend", m.mend(-1, 0), 0);
        CHECK.dueRow("x * 3 + y", Check.pair(m), 1, 0, 2, 1, 1);
        CHECK.due("as it was", m.run(0, 1), 6);
        CHECK.due("the signs as they were", m.node(1, 1) * 10 + m.node(2, 1), 10);
    }

    private static void pairIsFirst() {
        ProgramMender m = Check.told("a = 7; b = 7; return a * 10 + b;", "test 0 0 0 gives 88");
        CHECK.due("no mend", m.mend(-1, 0), 0);
        CHECK.dueRow("both numbers", Check.pair(m), 1, 0, 3, 0, 0);
        ProgramMender one = Check.told("a = 5; return a;", "test 0 0 0 gives 7");
        CHECK.dueRow("one node twice is no pair", Check.pair(one), -2, -2, -2, -2, -2);
    }

    private static void pairAmongSuspects() {
        ProgramMender m = Check.told("a=1;a=1;a=1;a=1;b=50;c=50;return b*c;", "test 0 0 0 gives 999");
        CHECK.due("no mend", m.mend(-1, 0), 0);
        CHECK.due("no pair", m.pair(0), -2);
        ProgramMender near = Check.told("b=50;c=50;a=1;a=1;a=1;return b+c;", "test 0 0 0 gives 102");
        CHECK.dueRow("the sixth statement is among them", Check.pair(near), 1, 0, 3, 0, 0);
        ProgramMender far = Check.told("b=50;a=1;a=1;a=1;a=1;a=1;c=50;return b+c;", "test 0 0 0 gives 102");
        CHECK.due("the seventh is not", far.pair(0), -2);
        ProgramMender ranked = Check.told("if x {d=1;d=1;} b=50;a=1;a=1;c=50;return b+c;",
                "test 0 0 0 gives 102;test 1 0 0 gives 102;test 1 0 0 gives 102");
        CHECK.due("by rank, not by nodes", ranked.suspect(1, 5), 14);
        CHECK.dueRow("so the pair is found", Check.pair(ranked), 7, 0, 13, 0, 0);
        String last = "b=50;if x {a=1;a=1;a=1;a=1;c=40;return b*10+c;} return 7;";
        ProgramMender behind = Check.told(last, "test 1 0 0 gives 549;test 0 0 0 gives 7");
        CHECK.due("the first node's statement is ranked behind six", behind.suspect(1, 6), 0);
        CHECK.due("so it is in no pair", behind.pair(0), -2);
        Check.tests(behind, "test 1 0 0 gives 549");
        CHECK.dueRow("by nodes it is in none either, for c is behind", Check.pair(behind), -2, -2, -2, -2, -2);
        ProgramMender six = Check.told("b=50;if x {a=1;c=40;return b*10+c;} return 7;", "test 1 0 0 gives 549;test 0 0 0 gives 7");
        CHECK.dueRow("of six statements all are", Check.pair(six), 1, 0, 7, 1, 0);
    }

    private static void pairAndState() {
        ProgramMender m = Check.told("a = 7; b = 7; return a * 10 + b;", "test 0 0 0 gives 88;test 0 0 0 gives 88 held");
        CHECK.due("held ones pass", m.pair(4), 1);
        m.take(m.pair(0), m.pair(1));
        CHECK.due("now there is a mend", m.pair(0), -2);
        CHECK.due("and it is the other one", m.mend(0, 0), 3);
        m.take(m.mend(0, 0), m.mend(0, 1));
        CHECK.due("mended", m.count(4), 1);
        m.undo();
        m.undo();
        CHECK.due("a pair again", m.pair(2), 3);
    }

    private static void refused() {
        ProgramMender m = Check.told("return x + 3;", "test 2 0 0 gives 6");
        CHECK.due("mend k", m.mend(2, 0), -1);
        CHECK.due("mend k below", m.mend(-2, 0), -1);
        CHECK.due("mend what", m.mend(0, 5), -1);
        CHECK.due("mend what below", m.mend(0, -1), -1);
        CHECK.due("mend k least", m.mend(Integer.MIN_VALUE, 0), -1);
        CHECK.due("pair what", m.pair(5), -1);
        CHECK.due("pair what below", m.pair(-1), -1);
    }
}
