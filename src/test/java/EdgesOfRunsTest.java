/** The edges that the document's terms name of runs, the spectrum, scores and ranks. */
public final class EdgesOfRunsTest {
    private static final Check CHECK = new Check();
    /** Sets a to the least of all ints, b to the greatest. */
    private static final String LEAST_AND_GREATEST = "a = 64 * 64 * 64 * 64 * 64 * 2; b = a - 1; ";
    /** 2 * x + 1 steps. */
    private static final String LOOP = "while a < x { a = a + 1; } ";

    public static void main(String[] args) {
        begins();
        lastStep();
        leftOutAtTheLastStep();
        numbers();
        crashes();
        compares();
        ends();
        spectrum();
        scores();
        ranked();
        CHECK.end();
    }

    private static void begins() {
        CHECK.sentence("A RUN: x, y, z as told, all others 0.");
        CHECK.due("x, y, z", Check.value("return x * 1 + y * 2 + z * 4;", "-999 999 -1"), -999 + 2 * 999 - 4);
        for (char variable = 'a'; variable <= 'f'; variable++) {
            CHECK.due("told of " + variable, Check.value("return " + variable + ";", "1 2 3"), 0);
        }
        ProgramMender m = Check.told("a = a + 1; x = x + 1; return a * 10 + x;", "test 1 0 0 gives 12;test 1 0 0 gives 12");
        CHECK.due("nothing is left of another run", m.count(4), 2);
        CHECK.due("nor of the one before", m.run(0, 1), 12);
    }

    private static void lastStep() {
        CHECK.sentence("A STATEMENT that is done is a STEP (of while: each asking of its E): the 301st HANGS instead.");
        run("a return is the 300th", LOOP + "return a;", "149", 0, 149, 300);
        run("a return would be the 301st", "b = 1; " + LOOP + "return a;", "149", 2, 0, 300);
        run("the 299th", LOOP.replace("a < x", "a + 1 < x") + "b = 1; return a;", "149", 0, 148, 299);
        run("an assignment is the 300th", LOOP + "b = 1;", "149", 0, 0, 300);
        run("an assignment would be the 301st", "c = 1; " + LOOP + "b = 1;", "149", 2, 0, 300);
        run("an asking of if is the 300th", LOOP + "if 0 { }", "149", 0, 0, 300);
        run("an asking of if would be the 301st", "c = 1; " + LOOP + "if 0 { }", "149", 2, 0, 300);
        run("an asking of while is the 300th", "b = 1; " + LOOP, "149", 0, 0, 300);
        run("a second while's asking is the 300th", LOOP + LOOP, "149", 0, 0, 300);
        run("it would be the 301st", "b = 1; " + LOOP + LOOP, "149", 2, 0, 300);
        run("the 300th crashes", LOOP + "return 1 / 0;", "149", 1, 0, 300);
        run("the 301st would crash", "b = 1; " + LOOP + "return 1 / 0;", "149", 2, 0, 300);
        run("for ever", "while 1 { }", "0", 2, 0, 300);
        ProgramMender m = Check.told("b = 1; " + LOOP + "return a;", "test 149 0 0 gives 149");
        CHECK.due("what hangs is not done", m.done(0, 10), 0);
        CHECK.due("nor traced", m.trace(0, 300), -1);
        CHECK.due("the last step", m.trace(0, 299), 2);
        CHECK.due("it fails without the return", m.spectrum(10, 0), 0);
        CHECK.due("it is not suspect", m.score(1, 10, 0), 0);
    }

    /** As many moves as there can be: each step has nineteen statements behind it that are left out. */
    private static void leftOutAtTheLastStep() {
        CHECK.sentence("What is left out is done as if it were not there: no STEP");
        ProgramMender m = Check.told("b = 1; " + LOOP + "c = 1;", "test 149 0 0 gives 0");
        CHECK.dueRow("it hangs", Check.run(m, 0), 2, 0, 300, 0);
        m.take(10, 0);
        CHECK.dueRow("the 301st is left out", Check.run(m, 0), 0, 0, 300, 1);
        ProgramMender hang = Check.told("while 1 { " + "a=1;".repeat(19) + " }", "test 0 0 0 gives 0");
        for (int statement = 2; statement <= 38; statement += 2) {
            hang.take(statement, 0);
        }
        CHECK.dueRow("the while alone is done", Check.run(hang, 0), 2, 0, 300, 0);
        CHECK.due("300 times", hang.done(0, 0), 300);
        hang.take(0, 1);
        CHECK.dueRow("nothing is done", Check.run(hang, 0), 0, 0, 0, 1);
        CHECK.due("no step", hang.trace(0, 0), -1);
    }

    private static void numbers() {
        CHECK.sentence("/ towards 0, % what that leaves");
        int[][] due = {{7, 2, 3, 1}, {-7, 2, -3, -1}, {7, -2, -3, 1}, {-7, -2, 3, -1}, {1, 2, 0, 1}, {-1, 2, 0, -1}, {0, -5, 0, 0}};
        for (int[] row : due) {
            String inputs = row[0] + " " + row[1] + " 0";
            CHECK.due(inputs + " by", Check.value("return x / y;", inputs), row[2]);
            CHECK.due(inputs + " rest", Check.value("return x % y;", inputs), row[3]);
        }
        CHECK.sentence("all wraps (ints)");
        far("a", Integer.MIN_VALUE);
        far("b", Integer.MAX_VALUE);
        far("b + 1", Integer.MIN_VALUE);
        far("a - 1", Integer.MAX_VALUE);
        far("a + a", 0);
        far("b * b", 1);
        far("a * -1", Integer.MIN_VALUE);
        far("a * a", 0);
        far("b * 2", -2);
        far("-a", Integer.MIN_VALUE);
        far("-b", -Integer.MAX_VALUE);
        far("a / -1", Integer.MIN_VALUE);
        far("a % -1", 0);
        far("a / b", -1);
        far("a % b", -1);
        far("a / a", 1);
    }

    private static void crashes() {
        CHECK.sentence("by 0 it CRASHES");
        for (String sides : new String[] {"x / 0", "x % 0", "0 / 0", "0 % 0", "x / (y - y)", "x % -0"}) {
            run(sides, "return " + sides + ";", "5", 1, 0, 1);
        }
        run("an assignment", "b = 3; a = 1 / 0; return 3;", "5", 1, 0, 2);
        run("an if", "if 1 / 0 { return 1; } else { return 2; }", "5", 1, 0, 1);
        run("a while", "while 1 / x { x = x - 1; } return 3;", "1", 1, 0, 3);
        run("0 by something", "return 0 / 5 + 0 % 5;", "0", 0, 0, 1);
        CHECK.sentence("E is worked out, both sides, left first");
        for (String sides : new String[] {"0 * (1 / 0)", "(1 / 0) * 0", "1 < (1 / 0)", "(1 % 0) == 1", "(1 / 0) / (1 / 0)", "-(1 / 0)"}) {
            run(sides, "return " + sides + ";", "0", 1, 0, 1);
        }
        run("also if it is denied or not", "if (x == 1) * (1 / (x - 1)) { return 1; } return 2;", "1", 1, 0, 1);
    }

    private static void compares() {
        CHECK.sentence("COMPARES are 1, 0");
        String[] signs = {"<", "<=", "==", "!=", ">", ">="};
        int[] leastToGreatest = {1, 1, 0, 1, 0, 0};
        int[] greatestToLeast = {0, 0, 0, 1, 1, 1};
        int[] same = {0, 1, 1, 0, 0, 1};
        for (int i = 0; i < signs.length; i++) {
            far("a " + signs[i] + " b", leastToGreatest[i]);
            far("b " + signs[i] + " a", greatestToLeast[i]);
            far("a " + signs[i] + " a", same[i]);
            far("b " + signs[i] + " b", same[i]);
        }
        CHECK.sentence("if, while: so, if E is not 0.");
        for (int x : new int[] {-999, -2, -1, 1, 2, 999}) {
            CHECK.due("if " + x, Check.value("if x { return 5; } return 6;", x + " 0 0"), 5);
            CHECK.due("while " + x, Check.value("while x { return 5; } return 6;", x + " 0 0"), 5);
        }
        CHECK.due("if 0", Check.value("if x { return 5; } return 6;", "0 0 0"), 6);
        CHECK.due("if -0", Check.value("if -x { return 5; } else { return 7; } return 6;", "0 0 0"), 7);
        CHECK.due("while 0", Check.value("while x { return 5; } return 6;", "0 0 0"), 6);
        CHECK.due("the least", Check.value(LEAST_AND_GREATEST + "if a { return 5; } return 6;", "0 0 0"), 5);
    }

    private static void ends() {
        CHECK.sentence("RETURN ends it; so does the end (with 0).");
        run("a return", "return x; return 3;", "7", 0, 7, 1);
        run("in blocks", "while 1 { if 1 { return x; } } return 3;", "7", 0, 7, 3);
        run("the end", "a = 5; x = 6;", "7", 0, 0, 2);
        run("the end of a block", "if x { a = 5; }", "7", 0, 0, 2);
        CHECK.sentence("A TEST PASSES, if its RUN ends with what is DUE; else it FAILS.");
        CHECK.due("what is due", Check.told("return x;", "test -1 0 0 gives -1").run(0, 3), 1);
        CHECK.due("one more", Check.told("return x + 1;", "test -1 0 0 gives -1").run(0, 3), 0);
        CHECK.due("the end, 0 is due", Check.told("a = 1;", "test 1 0 0 gives 0").run(0, 3), 1);
        CHECK.due("the end, 1 is due", Check.told("a = 1;", "test 1 0 0 gives 1").run(0, 3), 0);
        CHECK.due("a crash, 0 is due", Check.told("return 1 / 0;", "test 1 0 0 gives 0").run(0, 3), 0);
        CHECK.due("it hangs, 0 is due", Check.told("while 1 { }", "test 1 0 0 gives 0").run(0, 3), 0);
    }

    private static void spectrum() {
        CHECK.sentence("of SHOWN TESTS that FAIL (do not PASS), PASS, those in which it is done at least once");
        ProgramMender m = Check.told("while x > 0 { x = x - 1; a = 8 / x; } return a;",
                "test 0 0 0 gives 0;test 1 0 0 gives 0;test 3 0 0 gives 3;test 0 0 0 gives 1;test 0 0 0 gives 1 held;test 0 0 0 gives 0 held");
        CHECK.dueSpectrum(m, 0, 3, 1, 0, 0);
        CHECK.dueSpectrum(m, 4, 2, 0, 1, 1);
        CHECK.dueSpectrum(m, 8, 2, 0, 1, 1);
        CHECK.dueSpectrum(m, 12, 1, 1, 2, 0);
        Check.tests(m, "test 0 0 0 gives 1 held");
        CHECK.dueSpectrum(m, 0, 0, 0, 0, 0);
        Check.tests(m, "test 999 0 0 gives 0");
        CHECK.dueSpectrum(m, 12, 0, 0, 1, 0);
    }

    private static void scores() {
        String text = "if x { a = 1; } if y { a = 2; } return a;";
        CHECK.sentence("of none that FAIL, PASS that part is 0");
        ProgramMender m = Check.told(text, "test 1 0 0 gives 7;test 1 1 0 gives 7");
        CHECK.dueScore(m, 0, 0, 1, 1);
        CHECK.dueScore(m, 0, 2, 1, 1);
        CHECK.dueScore(m, 0, 6, 1, 1);
        Check.tests(m, "test 1 0 0 gives 1");
        CHECK.dueScore(m, 0, 2, 0, 1);
        CHECK.sentence("0, if f is 0");
        for (String suite : new String[] {"test 1 0 0 gives 1", "test 1 0 0 gives 9", "test 1 0 0 gives 1;test 1 0 0 gives 9",
            "test 0 1 0 gives 2;test 1 0 0 gives 9", "test 0 1 0 gives 9 held"}) {
            Check.tests(m, suite);
            for (int rule = 0; rule < 3; rule++) {
                CHECK.dueScore(m, rule, 6, 0, 1);
            }
        }
        CHECK.sentence("RULE 2: f times f by p and F less f together (0 if f is 0; 1000 if below is 0).");
        Check.tests(m, "test 1 1 0 gives 9");
        CHECK.dueScore(m, 2, 6, 1000, 1);
        Check.tests(m, ("test 1 1 0 gives 9;").repeat(15) + "test 1 1 0 gives 9");
        CHECK.dueScore(m, 2, 6, 1000, 1);
        Check.tests(m, ("test 1 1 0 gives 9;").repeat(15) + "test 1 0 0 gives 9");
        CHECK.dueScore(m, 2, 6, 225, 1);
        CHECK.dueScore(m, 2, 0, 1000, 1);
        Check.tests(m, "test 1 1 0 gives 9;test 1 1 0 gives 2");
        CHECK.dueScore(m, 2, 6, 1, 1);
        CHECK.sentence("RULE 1: f times f by F times (f and p)");
        Check.tests(m, ("test 1 1 0 gives 9;").repeat(15) + "test 1 1 0 gives 2");
        CHECK.dueScore(m, 1, 6, 15, 16);
        Check.tests(m, ("test 1 1 0 gives 2;").repeat(15) + "test 1 1 0 gives 9");
        CHECK.dueScore(m, 1, 6, 1, 16);
        CHECK.sentence("RULE 0: f by F, by this and p by P together");
        CHECK.dueScore(m, 0, 6, 1, 2);
        Check.tests(m, "test 1 1 0 gives 9;test 1 0 0 gives 9;test 0 0 0 gives 9;" + "test 1 1 0 gives 2;".repeat(4) + "test 1 0 0 gives 1");
        CHECK.dueScore(m, 0, 6, 5, 17);
        CHECK.sentence("SCORE by a RULE, above (what 0), below (1), in lowest terms (0 by 1)");
        Check.tests(m, "test 1 1 0 gives 9;".repeat(4) + "test 1 1 0 gives 2;".repeat(3) + "test 1 1 0 gives 2");
        CHECK.dueScore(m, 0, 6, 1, 2);
        CHECK.dueScore(m, 1, 6, 1, 2);
        CHECK.dueScore(m, 2, 6, 4, 1);
    }

    private static void ranked() {
        CHECK.sentence("RANKED: the greatest SCORE first, of equal ones the least NODE.");
        ProgramMender m = Check.told("if x { a = 1; } if y { a = 2; } return a;", "test 0 0 0 gives 0");
        for (int rule = 0; rule < 3; rule++) {
            ranks(m, rule, 0, 2, 4, 6, 8);
        }
        Check.tests(m, "test 1 0 0 gives 9;test 0 1 0 gives 9");
        ranks(m, 0, 0, 2, 4, 6, 8);
        ranks(m, 1, 0, 4, 8, 2, 6);
        ranks(m, 2, 0, 4, 8, 2, 6);
        Check.tests(m, "test 0 1 0 gives 9;test 1 0 0 gives 1");
        for (int rule = 0; rule < 3; rule++) {
            ranks(m, rule, 6, 0, 4, 8, 2);
        }
        Check.tests(m, "test 1 0 0 gives 9;".repeat(15) + "test 0 1 0 gives 9");
        ranks(m, 2, 0, 4, 8, 2, 6);
        ProgramMender one = Check.told("return 1;", "test 0 0 0 gives 0");
        ranks(one, 2, 0);
    }

    private static void far(String sides, int want) {
        ProgramMender m = Check.told(LEAST_AND_GREATEST + "return " + sides + ";", "test 0 0 0 gives 0");
        CHECK.due(sides + " ended", m.run(0, 0), 0);
        CHECK.due(sides, m.run(0, 1), want);
    }

    private static void run(String name, String program, String x, int how, int result, int steps) {
        ProgramMender m = Check.told(program, "test " + x + " 0 0 gives 999");
        CHECK.dueRow(name, Check.run(m, 0), how, result, steps, 0);
    }

    private static void ranks(ProgramMender m, int rule, int... want) {
        for (int k = 0; k < want.length; k++) {
            CHECK.due("suspect(" + rule + ", " + k + ")", m.suspect(rule, k), want[k]);
        }
        CHECK.due("suspect behind", m.suspect(rule, want.length), -1);
    }
}
