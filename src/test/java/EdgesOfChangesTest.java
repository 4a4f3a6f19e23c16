import java.util.List;

/** The edges that the document's terms name of changes, mends, pairs and what is taken. */
public final class EdgesOfChangesTest {
    private static final Check CHECK = new Check();

    public static void main(String[] args) {
        numbers();
        variables();
        signs();
        statements();
        leftOut();
        whenThereAreMends();
        order();
        orderByRuleOne();
        manyMends();
        overfit();
        alike();
        whenThereIsAPair();
        pairAmongSix();
        firstPair();
        taken();
        takenTwice();
        CHECK.end();
    }

    private static void numbers() {
        CHECK.sentence("NUMBER: 1 more; 1 less; 0, if it is not 0, 1, -1.");
        CHECK.dueChanges(Check.told("return 0;", "test 0 0 0 gives 0"), 1, 1, -1);
        CHECK.dueChanges(Check.told("return 1;", "test 0 0 0 gives 0"), 1, 2, 0);
        CHECK.dueChanges(Check.told("return 2;", "test 0 0 0 gives 0"), 1, 3, 1, 0);
        CHECK.dueChanges(Check.told("return 999;", "test 0 0 0 gives 0"), 1, 1000, 998, 0);
        ProgramMender m = Check.told("return -1;", "test 0 0 0 gives 0");
        CHECK.dueChanges(m, 2, 2, 0);
        m.take(2, 1);
        m.take(2, 1);
        CHECK.dueChanges(m, 2, 0, -2);
        m.take(2, 1);
        CHECK.dueChanges(m, 2, -1, -3, 0);
        ProgramMender most = Check.told("return 999;", "test 0 0 0 gives 0");
        for (int i = 0; i < 20; i++) {
            most.take(1, 0);
        }
        CHECK.dueChanges(most, 1, 1020, 1018, 0);
    }

    private static void variables() {
        CHECK.sentence("VARIABLE: each other one that is in the PROGRAM as told, by numbers.");
        CHECK.dueChanges(Check.told("return y;", "test 0 0 0 gives 0"), 1);
        CHECK.dueChanges(Check.told("y = y;", "test 0 0 0 gives 0"), 1);
        CHECK.dueChanges(Check.told("f = x;", "test 0 0 0 gives 0"), 1, 8);
        CHECK.dueChanges(Check.told("x = f;", "test 0 0 0 gives 0"), 1, 0);
        CHECK.dueChanges(Check.told("f=e;d=c;b=a;z=y+x;", "test 0 0 0 gives 0"), 1, 0, 1, 2, 3, 4, 5, 6, 8);
        ProgramMender m = Check.told("a = y; return z;", "test 0 0 0 gives 0");
        m.take(3, 0);
        CHECK.due("z is not in the program any more", m.node(3, 1), 1);
        CHECK.dueChanges(m, 1, 2, 3);
        m.take(0, 0);
        CHECK.dueChanges(m, 3, 2, 3);
    }

    private static void signs() {
        CHECK.sentence("Two sides: + - * / %: each other one of these in this order; then, of - / %, both sides change places");
        String[] signs = {"+", "-", "*", "/", "%"};
        for (int sign = 0; sign < 5; sign++) {
            boolean places = sign == 1 || sign >= 3;
            int[] want = new int[places ? 5 : 4];
            for (int c = 0; c < 4; c++) {
                want[c] = c < sign ? c : c + 1;
            }
            if (places) {
                want[4] = -100;
            }
            CHECK.dueChanges(Check.told("return x" + signs[sign] + "y;", "test 0 0 0 gives 0"), 1, want);
        }
        CHECK.sentence("a COMPARE: each other one, in this order");
        String[] compares = {"<", "<=", "==", "!=", ">", ">="};
        for (int sign = 0; sign < 6; sign++) {
            int[] want = new int[5];
            for (int c = 0; c < 5; c++) {
                want[c] = 5 + (c < sign ? c : c + 1);
            }
            CHECK.dueChanges(Check.told("return x" + compares[sign] + "y;", "test 0 0 0 gives 0"), 1, want);
        }
    }

    private static void statements() {
        CHECK.sentence("if, while: E is denied (so, if it is 0); then it is left out (with its BLOCKS)");
        for (String x : new String[] {"-2", "0", "1", "7"}) {
            boolean zero = x.equals("0");
            ProgramMender m = Check.told("if x { return 5; } else { return 6; } return 7;", "test " + x + " 0 0 gives 0");
            CHECK.dueChanges(m, 0, -100, -100);
            m.take(0, 0);
            CHECK.due("denied if " + x, m.run(0, 1), zero ? 5 : 6);
            m.take(0, 1);
            CHECK.due("left out if " + x, m.run(0, 1), 7);
            ProgramMender loop = Check.told("while x { return 5; } return 6;", "test " + x + " 0 0 gives 0");
            CHECK.dueChanges(loop, 0, -100, -100);
            loop.take(0, 0);
            CHECK.due("denied while " + x, loop.run(0, 1), zero ? 5 : 6);
            loop.take(0, 1);
            CHECK.due("left out while " + x, loop.run(0, 1), 6);
        }
        CHECK.sentence("of KIND 0, 3: it is left out");
        ProgramMender m = Check.told("a = 5; return a; return 6;", "test 0 0 0 gives 0");
        CHECK.dueChanges(m, 0, -100);
        CHECK.dueChanges(m, 2, -100);
        m.take(0, 0);
        CHECK.due("not set", m.run(0, 1), 0);
        m.take(2, 0);
        CHECK.due("not returned", m.run(0, 1), 6);
        m.take(4, 0);
        CHECK.dueRow("all is left out", Check.run(m, 0), 0, 0, 0, 1);
    }

    private static void leftOut() {
        CHECK.sentence("Minus: it is left out (what is behind it stays and has its CHANGES).");
        ProgramMender m = Check.told("return --5;", "test 0 0 0 gives -5");
        CHECK.dueChanges(m, 1, -100);
        CHECK.dueChanges(m, 2, -100);
        m.take(2, 0);
        CHECK.dueChanges(m, 1, -100);
        CHECK.dueChanges(m, 2);
        CHECK.dueChanges(m, 3, 6, 4, 0);
        CHECK.due("one minus", m.run(0, 1), -5);
        m.take(1, 0);
        CHECK.due("none", m.run(0, 1), 5);
        CHECK.dueChanges(m, 3, 6, 4, 0);
        CHECK.sentence("a minus: as what is behind it");
        ProgramMender sides = Check.told("return 9 - -(x - 2) * 3;", "test 7 0 0 gives 0");
        CHECK.due("as told", sides.run(0, 1), 24);
        sides.take(4, 0);
        CHECK.due("without it", sides.run(0, 1), -6);
        CHECK.due("no step less", sides.run(0, 2), 1);
    }

    private static void whenThereAreMends() {
        CHECK.sentence("there are such TESTS, some FAIL as it is");
        ProgramMender m = Check.told("return x;", "test 1 0 0 gives 0 held");
        CHECK.due("none is shown", m.mend(-1, 0), 0);
        CHECK.due("no change is a mend", m.change(0, 0, 2), 0);
        Check.tests(m, "test 0 0 0 gives 0");
        CHECK.due("none fails", m.mend(-1, 0), 0);
        CHECK.due("all pass with it, but it mends nothing", m.change(0, 0, 0) * 10 + m.change(0, 0, 2), 10);
        Check.tests(m, "test 1 0 0 gives 0;test 0 0 0 gives 0");
        CHECK.due("one fails", m.mend(-1, 0), 1);
        CHECK.due("now it is a mend", m.change(0, 0, 2), 1);
        Check.tests(m, "test 1 0 0 gives 0;test 1 0 0 gives 1");
        CHECK.due("one of two does not pass with it", m.mend(-1, 0), 0);
    }

    private static void order() {
        CHECK.sentence("MENDS are ordered by the RANK (RULE 1) of the STATEMENT in which they are .. then by NODES, then by CHANGES.");
        ProgramMender m = Check.told("a = 4; if x { a = a + 1; } return a;", "test 1 0 0 gives 6;test 9 0 0 gives 6;test 0 0 0 gives 9 held");
        mends(m, 1, 0, 7, 0);
        Check.tests(m, "test 1 0 0 gives 0;test 0 0 0 gives 4");
        mends(m, 5, 3);
        Check.tests(m, "test 1 0 0 gives 0");
        mends(m, 5, 3, 8, 0);
        mends(Check.told("return x - y;", "test 2 1 0 gives 2"), 1, 1, 1, 2);
    }

    /** Statement 0 is done by both tests that fail, the return by the one alone that does not hang there. */
    private static void orderByRuleOne() {
        CHECK.sentence("(a STATEMENT's own CHANGES: itself)");
        String text = "b = y; c = 1; if z { return 3; } while a < x { a = a + 1; } return b;";
        String failing = "test 148 0 0 gives 0;test 0 5 0 gives 0;";
        ProgramMender m = Check.told(text, failing + "test 0 0 1 gives 3;test 0 0 1 gives 3;test 0 0 1 gives 3");
        int last = m.count(0) - 2;
        CHECK.due("by rule 1 the return is ahead", rankOf(m, 1, last) < rankOf(m, 1, 0) ? 1 : 0, 1);
        CHECK.due("by rule 2 it is behind", rankOf(m, 2, last) > rankOf(m, 2, 0) ? 1 : 0, 1);
        mends(m, last, 0, 0, 0);
        Check.tests(m, failing + "test 0 0 0 gives 0;test 0 0 1 gives 3;test 0 0 1 gives 3");
        CHECK.due("by rule 1 the return is behind", rankOf(m, 1, last) > rankOf(m, 1, 0) ? 1 : 0, 1);
        CHECK.due("by rule 0 it is ahead", rankOf(m, 0, last) < rankOf(m, 0, 0) ? 1 : 0, 1);
        mends(m, 0, 0, last, 0);
        ProgramMender block = Check.told("a = 4; if x { return 5; } return a;", "test 1 0 0 gives 4;test 0 0 0 gives 4");
        mends(block, 4, 0, 5, 1, 2, 1);
    }

    private static int rankOf(ProgramMender m, int rule, int statement) {
        int rank = 0;
        while (m.suspect(rule, rank) != statement) {
            rank++;
        }
        return rank;
    }

    /** Nearly every change of a sum makes it unlike x: as many mends as a program can have, or nearly. */
    private static void manyMends() {
        CHECK.sentence("A MEND: a CHANGE with which all SHOWN TESTS PASS");
        String text = "a=4;b=5;c=6;d=7;e=8;f=9;return x==y+z+a+b+c+d+e+f+y+z+a+b+c+d+e+f+y+z+a+b+c+d+e;";
        String suite = "test 213 12 23 gives 0;test 0 0 0 gives 1 held;test -1 7 9 gives 5 held";
        PlainMender plain = new PlainMender();
        ProgramMender m = new ProgramMender();
        CHECK.due("program", Check.program(m, text), plain.program(text));
        CHECK.due("tests", Check.tests(m, suite), plain.tests(suite));
        List<int[]> due = plain.mends();
        CHECK.due("many", due.size() > 240 ? 1 : 0, 1);
        CHECK.due("how many", m.mend(-1, 0), due.size());
        for (int k = 0; k < due.size(); k += 7) {
            CHECK.dueRow("mend " + k, Check.mend(m, k), due.get(k));
        }
        CHECK.dueRow("the last", Check.mend(m, due.size() - 1), due.get(due.size() - 1));
        CHECK.due("one more", m.mend(due.size(), 0), -1);
    }

    private static void overfit() {
        CHECK.sentence("OVERFIT is one with which a HELD TEST FAILS.");
        ProgramMender m = Check.told("return x + 3;", "test 2 0 0 gives 6");
        CHECK.due("without held ones", m.mend(0, 3), 0);
        Check.tests(m, "test 2 0 0 gives 6;test 3 0 0 gives 9 held;test 4 0 0 gives 12 held");
        CHECK.dueRow("all pass", Check.mend(m, 0), 1, 1, 2, 0, 0);
        Check.tests(m, "test 2 0 0 gives 6;test 3 0 0 gives 9 held;test 4 0 0 gives 11 held");
        CHECK.dueRow("one fails", Check.mend(m, 0), 1, 1, 1, 1, 0);
        Check.tests(m, "test 2 0 0 gives 6;test 3 0 0 gives 8 held;test 4 0 0 gives 11 held");
        CHECK.dueRow("all fail", Check.mend(m, 0), 1, 1, 0, 1, 0);
    }

    /** With 3 in place of 2 the held run hangs, with 1 it crashes, with 0 or none it returns 0. */
    private static void alike() {
        CHECK.sentence("ALIKE are two, if all TESTS end alike with both (CRASHES, HANGS, what is returned).");
        String text = "a = 2; if x { while a == 3 { } return 0 / (a - 1); } return a == 2;";
        ProgramMender m = Check.told(text, "test 0 0 0 gives 0;test 1 0 0 gives 7 held");
        CHECK.dueRow("left out", Check.mend(m, 0), 0, 0, 0, 1, 0);
        CHECK.dueRow("3: it hangs", Check.mend(m, 1), 1, 0, 0, 1, 1);
        CHECK.dueRow("1: it crashes", Check.mend(m, 2), 1, 1, 0, 1, 2);
        CHECK.dueRow("0: it returns 0", Check.mend(m, 3), 1, 2, 0, 1, 0);
        CHECK.due("unlike: these and what returns 1", m.unlike(), 4);
        Check.tests(m, "test 0 0 0 gives 0;test 0 0 0 gives 1 held");
        CHECK.due("all held ones end alike", m.unlike(), 1);
        CHECK.due("the last is like the first", m.mend(m.mend(-1, 0) - 1, 4), 0);
        String suite = "test 0 0 0 gives 0;test 1 0 0 gives 7 held";
        alikes(Check.told("a = 2; if x { return 0 / ((a - 1) * (a - 3)); } return a == 2;", suite), 0, 1, 1, 0);
        alikes(Check.told("a = 2; if x { while a % 2 { } } return a == 2;", suite), 0, 1, 1, 0);
        alikes(Check.told("a = 2; if x { return 64 * 64 * 64 * 64 * 128 / (1 - a); } return a == 2;", suite), 0, 1, 2, 0);
        ProgramMender returned = Check.told("return x + 3;", "test 2 0 0 gives 6;test 3 0 0 gives 0 held");
        CHECK.due("unlike numbers are returned, neither is due", returned.unlike(), 2);
    }

    private static void whenThereIsAPair() {
        CHECK.sentence("A PAIR, if there is no MEND (and some SHOWN TEST FAILS)");
        String text = "a = 7; b = 7; return a * 10 + b;";
        ProgramMender m = Check.told(text, "test 0 0 0 gives 88");
        pair(m, 1, 0, 3, 0, 0);
        Check.tests(m, "test 0 0 0 gives 78");
        CHECK.due("a mend", m.mend(0, 0), 3);
        pair(m, -2, -2, -2, -2, -2);
        Check.tests(m, "test 0 0 0 gives 88 held");
        pair(m, -2, -2, -2, -2, -2);
        ProgramMender passing = Check.told("a = 7; b = 7; return x;", "test 0 0 0 gives 0");
        pair(passing, -2, -2, -2, -2, -2);
        ProgramMender none = Check.told(text, "test 0 0 0 gives 999");
        pair(none, -2, -2, -2, -2, -2);
    }

    /** By rule 2 the six statements that all tests do are ahead of the one that has to change; by rule 0 six are that need not. */
    private static void pairAmongSix() {
        CHECK.sentence("among the first 6 by RANK (RULE 1; fewer, if there are)");
        pair(Check.told("return 5 * x + 5 * y;", "test 1 1 0 gives 12"), 2, 0, 3, 0, 0);
        pair(Check.told("b=50;a=1;a=1;a=1;c=50;return b+c;", "test 0 0 0 gives 102"), 1, 0, 9, 0, 0);
        pair(Check.told("b=50;a=1;a=1;a=1;a=1;c=50;return b+c;", "test 0 0 0 gives 102"), 1, 0, 11, 0, 0);
        pair(Check.told("b=50;a=1;a=1;a=1;a=1;a=1;c=50;return b+c;", "test 0 0 0 gives 102"), -2, -2, -2, -2, -2);
        pair(Check.told("a=1;a=1;a=1;a=1;a=1;a=1;return a;", "test 0 0 0 gives 5"), -2, -2, -2, -2, -2);
        String passing = "test 0 0 0 gives 0;".repeat(4) + "test 0 0 0 gives 0";
        ProgramMender m = Check.told("b=3;c=0;c=0;c=0;if x{b=7;} return b*z;",
                "test 0 0 1 gives 4;test 0 0 1 gives 4;test 1 0 1 gives 8;test 1 0 1 gives 8;" + passing);
        CHECK.due("first by rule 1", m.suspect(1, 0), 10);
        CHECK.due("seventh by rule 2", m.suspect(2, 6), 10);
        pair(m, 1, 0, 11, 0, 0);
        ProgramMender other = Check.told("b=3;c=7;if x{d=0;d=0;d=0;d=0;d=0;d=0;} return (b*10+c)*z;",
                "test 0 0 1 gives 48;test 0 0 1 gives 48;test 0 0 1 gives 48;test 1 0 1 gives 48;" + passing);
        CHECK.due("first by rule 1", other.suspect(1, 0), 0);
        CHECK.due("seventh by rule 0", other.suspect(0, 6), 0);
        pair(other, 1, 0, 3, 0, 0);
        ProgramMender behind = Check.told("b=50;if x {a=1;a=1;a=1;a=1;c=40;return b*10+c;} return 7;", "test 1 0 0 gives 999");
        pair(behind, -2, -2, -2, -2, -2);
        Check.tests(behind, "test 1 0 0 gives 549;test 0 0 0 gives 7");
        CHECK.due("a statement that was among the six is not any more", behind.suspect(1, 6), 0);
        pair(behind, -2, -2, -2, -2, -2);
    }

    private static void firstPair() {
        CHECK.sentence("the first by the lesser NODE, then its CHANGE, then the other NODE, its CHANGE");
        pair(Check.told("a = 5; b = 5; return (a != 5) + (b != 5);", "test 0 0 0 gives 2"), 0, 0, 2, 0, 0);
        pair(Check.told("return (5 < x) + (5 < y);", "test 5 5 0 gives 2"), 2, 0, 5, 0, 0);
        pair(Check.told("return (x > 5) + (y > 5);", "test 5 5 0 gives 2"), 2, 1, 5, 1, 0);
        pair(Check.told("return 5 * x + 5 * y;", "test 1 1 0 gives 8"), 2, 1, 3, 1, 0);
        CHECK.sentence("two CHANGES, of unlike NODES");
        pair(Check.told("a = 5; return a;", "test 0 0 0 gives 7"), -2, -2, -2, -2, -2);
        pair(Check.told("a = 5; return -a;", "test 0 0 0 gives 6"), 1, 0, 3, 0, 0);
    }

    private static void taken() {
        CHECK.sentence("A MEND that is TAKEN is in the PROGRAM from then on");
        ProgramMender m = Check.told("return x + 3;", "test 2 0 0 gives 6");
        m.take(m.mend(1, 0), m.mend(1, 1));
        CHECK.due("it passes", m.run(0, 3), 1);
        CHECK.due("with other tests as well", Check.tests(m, "test 3 0 0 gives 7"), 1);
        CHECK.due("it passes", m.run(0, 3), 1);
        CHECK.sentence("NODES are numbered as ever, CHANGES by what is there now");
        ProgramMender out = Check.told("a = 5; return a - 4;", "test 0 0 0 gives 1");
        out.take(0, 0);
        CHECK.due("nodes", out.count(0), 6);
        CHECK.due("statements", out.count(1), 2);
        CHECK.due("the return", out.node(2, 0), 3);
        CHECK.due("what is left out is still there", out.node(1, 1), 5);
        out.take(3, 0);
        CHECK.dueChanges(out, 3, 1, 2, 3, 4);
        out.take(5, 2);
        CHECK.dueChanges(out, 5, 1, -1);
        CHECK.sentence("a STATEMENT that is left out has no CHANGES any more, nor what is in it, nor a minus that is");
        ProgramMender in = Check.told("if x { while y { a = -4; } } else { z = 2; } return -z;", "test 0 0 0 gives 1");
        int[] changes = new int[in.count(0)];
        for (int n = 0; n < changes.length; n++) {
            changes[n] = in.changes(n);
        }
        in.take(0, 1);
        for (int n = 0; n < 9; n++) {
            CHECK.due("in what is left out " + n, in.changes(n), 0);
        }
        CHECK.due("behind it", in.changes(9), changes[9]);
        in.take(10, 0);
        CHECK.due("a minus", in.changes(10), 0);
        CHECK.due("what is behind it", in.changes(11), changes[11]);
        in.undo();
        in.undo();
        in.take(2, 1);
        CHECK.due("the if around it", in.changes(0), 2);
        CHECK.due("an inner one with its block", in.changes(2) + in.changes(3) + in.changes(4) + in.changes(5) + in.changes(6), 0);
        in.undo();
        for (int n = 0; n < changes.length; n++) {
            CHECK.due("as at first " + n, in.changes(n), changes[n]);
        }
    }

    private static void takenTwice() {
        CHECK.sentence("denied twice is as at first, so are sides that change places twice");
        ProgramMender m = Check.told("if x - y { return 1; } return 2;", "test 3 3 0 gives 2");
        for (int times = 1; times <= 4; times++) {
            m.take(0, 0);
            CHECK.due("denied " + times, m.node(0, 4), times % 2 == 1 ? 2 : 0);
            CHECK.due("the run " + times, m.run(0, 1), times % 2 == 1 ? 1 : 2);
        }
        ProgramMender sides = Check.told("return x % y;", "test 7 4 0 gives 3");
        for (int times = 1; times <= 4; times++) {
            sides.take(1, 4);
            CHECK.due("places " + times, sides.node(1, 4), times % 2 == 1 ? 3 : 0);
            CHECK.due("the run " + times, sides.run(0, 1), times % 2 == 1 ? 4 : 3);
        }
        CHECK.sentence("20 at most are, to be taken back");
        ProgramMender most = Check.told("if x { return 1; } return 2;", "test 0 0 0 gives 2");
        for (int i = 1; i <= 20; i++) {
            CHECK.due("take " + i, most.take(0, 0), i);
        }
        CHECK.due("a 21st", most.take(0, 0), -1);
        CHECK.due("it is not done", most.node(0, 4), 0);
        for (int i = 19; i >= 0; i--) {
            CHECK.due("back to " + i, most.undo(), i);
            CHECK.due("denied or not", most.node(0, 4), i % 2 == 1 ? 2 : 0);
        }
        CHECK.due("none is left", most.undo(), -1);
        CHECK.due("one is taken again", most.take(0, 1), 1);
    }

    /** Nodes and changes of all mends, in their order. */
    private static void mends(ProgramMender m, int... want) {
        CHECK.due("how many mends", m.mend(-1, 0), want.length / 2);
        for (int k = 0; k < want.length / 2; k++) {
            CHECK.due("node of mend " + k, m.mend(k, 0), want[2 * k]);
            CHECK.due("change of mend " + k, m.mend(k, 1), want[2 * k + 1]);
        }
    }

    /** Of the first mends: the first one with which each is alike. */
    private static void alikes(ProgramMender m, int... want) {
        for (int k = 0; k < want.length; k++) {
            CHECK.due("alike with mend " + k, m.mend(k, 4), want[k]);
        }
    }

    private static void pair(ProgramMender m, int... want) {
        CHECK.dueRow("pair", Check.pair(m), want);
    }
}
