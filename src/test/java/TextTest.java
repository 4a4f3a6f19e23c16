/** Promises 1 to 4: a new object, the tape, the texts of programs and tests, and their faults. */
public final class TextTest {
    private static final Check CHECK = new Check();

    public static void main(String[] args) {
        newObject();
        tape();
        programAndTape();
        tokens();
        wrongPrograms();
        tooMuch();
        faultsLeaveAll();
        suites();
        wrongSuites();
        CHECK.end();
    }

    private static void newObject() {
        ProgramMender m = new ProgramMender();
        for (int what = 0; what <= 9; what++) {
            CHECK.due("new count(" + what + ")", m.count(what), 0);
        }
        CHECK.due("new run", m.run(0, 0), -1);
        CHECK.due("new done", m.done(0, 0), -1);
        CHECK.due("new trace", m.trace(0, 0), -1);
        CHECK.due("new spectrum", m.spectrum(0, 0), -1);
        CHECK.due("new score", m.score(0, 0, 0), -1);
        CHECK.due("new suspect", m.suspect(0, 0), -1);
        CHECK.due("new changes", m.changes(0), -1);
        CHECK.due("new change", m.change(0, 0, 0), -200);
        CHECK.due("new mends", m.mend(-1, 77), 0);
        CHECK.due("new mend", m.mend(0, 0), -1);
        CHECK.due("new unlike", m.unlike(), 0);
        CHECK.due("new best", m.best(), -1);
        CHECK.due("new pair", m.pair(4), -2);
        CHECK.due("new pair(5)", m.pair(5), -1);
        CHECK.due("new values", m.values(0, 0), -200);
        CHECK.due("new forced", m.forced(0, true), -1);
        CHECK.due("new flip", m.flip(0), -1);
        CHECK.due("new take", m.take(0, 0), -1);
        CHECK.due("new undo", m.undo(), -1);
        CHECK.dueNoNode(m, 0, 0);
        CHECK.dueNoTest(m, 0, 0);
    }

    private static void tape() {
        ProgramMender m = new ProgramMender();
        for (int i = 1; i <= 30; i++) {
            CHECK.due("feed " + i, m.feed(0x20202020, 0x20202020, 0x20202020, 0x20202020, 0x20202020), 20 * i);
        }
        CHECK.due("a 31st feed", m.feed(0, 0, 0, 0, 0), -1);
        CHECK.due("the tape stays full", m.count(8), 600);
        CHECK.due("too many bytes", m.program(601), -1);
        CHECK.due("below 0", m.program(-1), -1);
        CHECK.due("the least number", m.tests(Integer.MIN_VALUE), -1);
        CHECK.due("the tape stays", m.count(8), 600);
        CHECK.due("blanks alone", m.program(600), Check.fault(600, 1));
        CHECK.due("the tape is empty behind a fault", m.count(8), 0);
        CHECK.due("highest byte first", m.feed(0x783d313b, 0x20202020, 0, 0, 0), 20);
        CHECK.due("x=1;", m.program(4), 2);
        CHECK.due("bytes behind n are gone", m.count(8), 0);
    }

    private static void programAndTape() {
        ProgramMender m = new ProgramMender();
        CHECK.due("nothing is no program", m.program(0), Check.fault(0, 1));
        CHECK.due("nothing is no suite", m.tests(0), Check.fault(0, 1));
        CHECK.due("a program", Check.program(m, "return x;"), 2);
        CHECK.due("tests", Check.tests(m, "test 1 2 3 gives 4"), 1);
        CHECK.due("another program", Check.program(m, "return x + y;"), 4);
        CHECK.due("tests stay", m.count(2), 1);
        CHECK.due("a change is taken", m.take(1, 0), 1);
        CHECK.due("other tests", Check.tests(m, "test 1 2 3 gives 4 held;test 0 0 0 gives 0"), 2);
        CHECK.due("what is taken stays", m.count(7), 1);
        CHECK.due("a third program", Check.program(m, "return y;"), 2);
        CHECK.due("nothing is taken", m.count(7), 0);
        CHECK.due("nothing to take back", m.undo(), -1);
    }

    private static void tokens() {
        due("x=1;", 2);
        due("\n x \n= 1 \n;\n ", 2);
        due("x=007;", 2);
        due("x=1<=2;y=1>=2;z=1==2;a=1!=2;b=1<2;c=1>2;", 24);
        due("if x{y=1;}else{y=2;}", 6);
        due("if1{}", 2);
        due("if x{}while y{}", 4);
        due("while(x)<(y){}", 4);
        due("x=-1--2- -3;", 9);
        due("return((x));", 2);
    }

    private static void wrongPrograms() {
        due("x=1", Check.fault(3, 1));
        due("x=1  ", Check.fault(5, 1));
        due("x=1;}", Check.fault(4, 1));
        due("X=1;", Check.fault(0, 1));
        due("x=1;#", Check.fault(4, 1));
        due("x=\t1;", Check.fault(2, 1));
        due("x=1;\r", Check.fault(4, 1));
        due("x=1" + (char) 0 + ";", Check.fault(3, 1));
        due("x=" + (char) 0xE9 + ";", Check.fault(2, 1));
        due("x=1!2;", Check.fault(3, 1));
        due("x=1 ! =2;", Check.fault(4, 1));
        due("x=1234;", Check.fault(2, 1));
        due("x=0001;", Check.fault(2, 1));
        due("x=12 34;", Check.fault(5, 1));
        due("x=12a;", Check.fault(4, 1));
        due("x= =1;", Check.fault(3, 1));
        due("x==1;", Check.fault(1, 1));
        due("x=== 1;", Check.fault(1, 1));
        due("x=<1;", Check.fault(2, 1));
        due("x<=1;", Check.fault(1, 1));
        due("x=1<2<3;", Check.fault(5, 1));
        due("x=1< <2;", Check.fault(5, 1));
        due("x=1+=2;", Check.fault(4, 1));
        due("x=+1;", Check.fault(2, 1));
        due("x=1+;", Check.fault(4, 1));
        due("x=();", Check.fault(3, 1));
        due("x=(1;", Check.fault(4, 1));
        due("x=1);", Check.fault(3, 1));
        due("g=1;", Check.fault(0, 1));
        due("xy=1;", Check.fault(0, 1));
        due("x=ab;", Check.fault(2, 1));
        due("x=if;", Check.fault(2, 1));
        due("else{}", Check.fault(0, 1));
        due("while x{}else{}", Check.fault(9, 1));
        due("if x{}else{}else{}", Check.fault(12, 1));
        due("if x y=1;", Check.fault(5, 1));
        due("if {}", Check.fault(3, 1));
        due("if x{", Check.fault(5, 1));
        due("if x{};", Check.fault(6, 1));
        due("return;", Check.fault(6, 1));
        due("ifx{}", Check.fault(0, 1));
        due("{}", Check.fault(0, 1));
        due("1=x;", Check.fault(0, 1));
        due("test 1 1 1 gives 1", Check.fault(0, 1));
        due("x=g;#", Check.fault(2, 1));
        due("x=#g", Check.fault(2, 1));
    }

    private static void tooMuch() {
        String twenty = "x=1;".repeat(20);
        due(twenty, 40);
        due(twenty + "x=1;", Check.fault(80, 2));
        due(twenty + " while", Check.fault(81, 2));
        due(twenty + "g", Check.fault(80, 1));
        due("if x{" + "x=1;".repeat(19) + "}", 40);
        due("if x{" + twenty + "}", Check.fault(5 + 76, 2));
        due("if x{if x{if x{if x{}}}}", 8);
        due("if x{if x{if x{if x{if x{}}}}}", Check.fault(24, 2));
        due("if x{if x{if x{if x{while x {}}}}}", Check.fault(28, 2));
        due("if x{if x{if x{if x{}else{if x{}}}}}", Check.fault(30, 2));
        due("if x{if x{if x{if x{if x}}}}", Check.fault(24, 1));
        due("x=((((((((1))))))));", 2);
        due("x=(((((((((1)))))))));", Check.fault(10, 2));
        due("x=--------1;", 10);
        due("x=---------1;", Check.fault(10, 2));
        due("x=(-(-(-(-1))));", 6);
        due("x=(-(-(-(-(1)))));", Check.fault(10, 2));
        due("x=(-(-(-(- -1))));", Check.fault(11, 2));
        due("x=((((((((1-2))))))))-((((((((3*4))))))));", 8);
        due("x=((((((((1))))))))+(((((((((1)))))))));", Check.fault(28, 2));
        due("x=" + "1+".repeat(29) + "1;", 60);
        due("x=" + "1+".repeat(29) + "-1;", Check.fault(0, 2));
        due(" x=" + "1+".repeat(30) + "1;", Check.fault(0, 2));
        due("x=" + "1+".repeat(290) + "1;", Check.fault(0, 2));
        due("x=" + "1+".repeat(290) + "1", Check.fault(583, 1));
        due("x=" + "1+".repeat(40) + "1;" + "x=1;".repeat(20), Check.fault(84 + 76, 2));
    }

    private static void faultsLeaveAll() {
        ProgramMender m = Check.told("x=1;return x*y;", "test 1 2 3 gives 4;test 1 2 3 gives 2 held");
        m.take(1, 0);
        CHECK.due("a wrong program", Check.program(m, "x=2;return z"), Check.fault(12, 1));
        CHECK.due("a wrong suite", Check.tests(m, "test 5 5 5 gives 5;"), Check.fault(19, 1));
        CHECK.due("nodes stay", m.count(0), 6);
        CHECK.due("tests stay", m.count(2), 2);
        CHECK.due("held ones stay", m.count(3), 1);
        CHECK.due("what is taken stays", m.count(7), 1);
        CHECK.due("numbers stay", m.node(1, 1), 2);
        CHECK.due("rows stay", m.test(0, 3), 4);
        CHECK.due("the run stays", m.run(0, 1), 4);
        CHECK.due("it can be taken back", m.undo(), 0);
        CHECK.due("the number as told", m.node(1, 1), 1);
    }

    private static void suites() {
        ProgramMender m = new ProgramMender();
        CHECK.due("one test", Check.tests(m, "test 1 -2 - 3 gives -999 held"), 1);
        for (int what = 0; what < 5; what++) {
            CHECK.due("test(0, " + what + ")", m.test(0, what), new int[] {1, -2, -3, -999, 1}[what]);
        }
        CHECK.due("close together", Check.tests(m, "test1 2 3gives4held;test0 0 0gives-0"), 2);
        CHECK.due("due", m.test(0, 3), 4);
        CHECK.due("held", m.test(0, 4), 1);
        CHECK.due("shown", m.test(1, 4), 0);
        CHECK.due("sixteen", Check.tests(m, "test 0 0 0 gives 0;".repeat(15) + "test 0 0 0 gives 0"), 16);
        CHECK.due("none held", m.count(3), 0);
    }

    private static void wrongSuites() {
        dueTests("test 1 2 3 gives 4;", Check.fault(19, 1));
        dueTests("test 1 2 gives 4", Check.fault(9, 1));
        dueTests("test 1 2 3 4 gives 4", Check.fault(11, 1));
        dueTests("test 1 2 3 gives", Check.fault(16, 1));
        dueTests("test 1 2 3 give 4", Check.fault(11, 1));
        dueTests("test 1 2 3 gives - - 4", Check.fault(19, 1));
        dueTests("test 1 2 3 gives +4", Check.fault(17, 1));
        dueTests("test 1 2 3 gives x", Check.fault(17, 1));
        dueTests("test 1 2 3 gives 1000", Check.fault(17, 1));
        dueTests("test 1 2 3 gives 4 held held", Check.fault(24, 1));
        dueTests("test 1 2 3 gives 4 test 1 2 3 gives 4", Check.fault(19, 1));
        dueTests("test 1 2 3 gives 4,", Check.fault(18, 1));
        dueTests("held", Check.fault(0, 1));
        dueTests("  ", Check.fault(2, 1));
        dueTests("x=1;", Check.fault(0, 1));
        String sixteen = "test 0 0 0 gives 0;".repeat(16);
        dueTests(sixteen + "test", Check.fault(16 * 19, 2));
        dueTests(sixteen + " test 0 0 0 gives 0", Check.fault(16 * 19 + 1, 2));
        dueTests(sixteen + "held", Check.fault(16 * 19, 1));
        dueTests(sixteen, Check.fault(16 * 19, 1));
        dueTests("test 0 0 0 gives 0 0;" + sixteen, Check.fault(19, 1));
    }

    private static void due(String program, int want) {
        ProgramMender m = new ProgramMender();
        CHECK.due("program: " + program, Check.program(m, program), want);
        CHECK.due("the tape behind: " + program, m.count(8), 0);
        CHECK.due("nodes of: " + program, m.count(0), Math.max(want, 0));
    }

    private static void dueTests(String suite, int want) {
        ProgramMender m = new ProgramMender();
        CHECK.due("tests: " + suite, Check.tests(m, suite), want);
        CHECK.due("the tape behind: " + suite, m.count(8), 0);
        CHECK.due("tests of: " + suite, m.count(2), Math.max(want, 0));
    }
}
