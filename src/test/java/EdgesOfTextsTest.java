/**
 * The edges that the document's terms name of texts: tokens, programs, nodes, faults, tests. In a
 * text that is wrong, ^ stands at the place of the fault and is itself no part of the text.
 */
public final class EdgesOfTextsTest {
    private static final Check CHECK = new Check();
    private static final String TWENTY = "x=1;".repeat(20);
    private static final String FOUR_BLOCKS = "if x{if x{if x{if x{";
    private static final String EIGHT = "((((((((";
    private static final String LINE = "test 0 0 0 gives 0";
    private static final String[] TOKENS = {"x", "1", "if", "while", "return", "else", "test", "gives", "held", "word", "=", "==", "<=",
        "<", "+", "-", "*", "%", "(", ")", "{", "}", ";"};
    private static final String BEGINS_STATEMENT = "x if while return";
    private static final String BEGINS_PART = "x 1 - (";
    private static final String GOES_ON = "== <= < + - * %";
    private static final String GOES_ON_COMPARED = "+ - * %";

    public static void main(String[] args) {
        tokens();
        grammar();
        tokensThatGoOn();
        nodeNumbers();
        limits();
        faults();
        faultsOfLimits();
        suites();
        CHECK.end();
    }

    private static void tokens() {
        CHECK.sentence("blanks, 32, 10, part TOKENS and mean nothing else");
        for (int b = 0; b < 256; b++) {
            anyByte((char) b);
        }
        nodes(2, "\n\n  x\n=\n \n1 ;  \n");
        CHECK.sentence("words of small letters");
        for (String word : new String[] {"If", "iF", "IF", "i", "ifs", "of", "ig", "fi", "whil", "xhile", "whilf", "while1", "retur",
            "seturn", "returo", "returns", "X", "xX"}) {
            CHECK.due(word, Check.program(new ProgramMender(), word + " x{}") < 0 ? 1 : 0, 1);
        }
        wrong(1, "^ifx{}");
        wrong(1, "^of x{}");
        wrong(1, "^whale x{}");
        wrong(1, "^returm x;");
        wrong(1, "if x{}^elsf{}");
        wrong(1, "if x{}^dlse{}");
        wrong(1, "x=^X;");
        wrong(1, "x^X=1;");
        wrong(1, "^Return x;");
        CHECK.sentence("NUMBERS of 1 to 3 digits");
        number("0", 0);
        number("9", 9);
        number("00", 0);
        number("10", 10);
        number("000", 0);
        number("099", 99);
        number("999", 999);
        wrong(1, "x=^0000;");
        wrong(1, "x=^1000;");
        wrong(1, "x=^9999999999999999999;");
        CHECK.sentence("each that stand together");
        nodes(2, "if1{}");
        nodes(4, "x=1;y=x;");
        wrong(1, "x=12 ^3;");
        wrong(1, "x=x ^x;");
        wrong(1, "x=^xx;");
        wrong(1, "^w hile x{}");
        CHECK.sentence("the signs <= >= == !=, else < > = + - * / % ( ) { } ; alone");
        String[] joined = {"<=", ">=", "==", "!="};
        for (String sign : joined) {
            nodes(4, "x=1" + sign + "2;");
            wrong(1, "x=1" + sign + "^=2;");
        }
        wrong(1, "x=1< ^=2;");
        wrong(1, "x=1> ^=2;");
        wrong(1, "x=1^= =2;");
        wrong(1, "x=1^! =2;");
        wrong(1, "x=1<^>2;");
        wrong(1, "x=1^=<2;");
        nodes(5, "x=1--2;");
        wrong(1, "x=1+^+2;");
        wrong(1, "x=1^&2;");
    }

    /** Between two tokens, behind the last one, between two digits. */
    private static void anyByte(char b) {
        boolean blank = b == 32 || b == 10;
        boolean letter = b >= 'a' && b <= 'z';
        boolean digit = b >= '0' && b <= '9';
        due("x" + b + "=1;", blank ? 2 : Check.fault(letter ? 0 : 1, 1));
        boolean begins = "xyzabcdef".indexOf(b) >= 0;
        due("x=1;" + b, blank ? 2 : Check.fault(begins ? 5 : 4, 1));
        due(b + "x=1;", blank ? 2 : Check.fault(0, 1));
        boolean sign = "+-*/%<>".indexOf(b) >= 0;
        due("x=1" + b + "1;", digit ? 2 : sign ? 4 : Check.fault(blank || b == ';' ? 4 : 3, 1));
    }

    private static void grammar() {
        CHECK.sentence("A PROGRAM is a TEXT .. : STATEMENT { STATEMENT }.");
        wrong(1, "^");
        wrong(1, " ^");
        nodes(2, "x=1;");
        nodes(4, "x=1;x=1;");
        CHECK.sentence("BLOCK: { and STATEMENTS, none too, and }.");
        nodes(2, "if x{}");
        nodes(2, "if x{}else{}");
        nodes(2, "while x{}");
        nodes(4, "if x{}else{x=1;}");
        wrong(1, "if x^");
        wrong(1, "if x ^x=1;");
        wrong(1, "if x{}else ^x=1;");
        wrong(1, "if x{x=1;^");
        wrong(1, "if x{^;}");
        wrong(1, "x=1;^}");
        wrong(1, "while x{}^else{}");
        wrong(1, "if x{}else{}^else{}");
        CHECK.sentence("E: SUM [ COMPARE SUM ].");
        nodes(2, "x=1;");
        nodes(4, "x=1<1;");
        wrong(1, "x=1<1^<1;");
        wrong(1, "x=1==1^!=1;");
        wrong(1, "x=^<1;");
        wrong(1, "x=1<^;");
        nodes(6, "x=(1<1)<1;");
        nodes(6, "x=1<(1<1);");
        CHECK.sentence("SUM: TERM then as often as one likes + or - TERM. TERM: PART then likewise * or / or % PART.");
        nodes(2, "x=1;");
        nodes(60, "x=1" + "-1".repeat(29) + ";");
        nodes(60, "x=1" + "*1".repeat(29) + ";");
        nodes(60, "x=1" + "%1+1/1".repeat(9) + "*1".repeat(2) + ";");
        CHECK.sentence("PART: NUMBER | VARIABLE | - PART | ( E ).");
        wrong(1, "x=^;");
        wrong(1, "x=-^;");
        wrong(1, "x=(^);");
        wrong(1, "x=1*^;");
        wrong(1, "x=^*1;");
        wrong(1, "x=^+1;");
        wrong(1, "x=-^+1;");
        wrong(1, "x=(1^;");
        wrong(1, "x=1^);");
        nodes(2, "x=(1);");
        nodes(4, "x=--1;");
        CHECK.sentence("VARIABLES are the words x y z (0 to 2), a b c d e f (3 to 8).");
        for (char letter = 'a'; letter <= 'z'; letter++) {
            int variable = "xyzabcdef".indexOf(letter);
            ProgramMender m = new ProgramMender();
            CHECK.due(letter + "=1;", Check.program(m, letter + "=1;"), variable < 0 ? Check.fault(0, 1) : 2);
            CHECK.due("x=" + letter + ";", Check.program(m, "x=" + letter + ";"), variable < 0 ? Check.fault(2, 1) : 2);
            if (variable >= 0) {
                CHECK.due("the number of " + letter, m.node(1, 1), variable);
            }
        }
    }

    /** Each text that is begun, with the tokens that can stand behind it: all others are faults. */
    private static void tokensThatGoOn() {
        CHECK.sentence("TOKEN with which no PROGRAM goes on");
        goesOn(BEGINS_STATEMENT, "", "x=1;", "if 1{}else{}", "while 1{}", "return 1;", "while 1{if 1{}}");
        goesOn(BEGINS_STATEMENT + " else", "if 1{}", "if 1{x=1;}", "x=1;if 1{}", "while 1{}if 1{while 1{}}");
        goesOn(BEGINS_STATEMENT + " }", "if 1{", "if 1{}else{", "while 1{", "if 1{x=1;", "if 1{while 1{}", "if 1{if 1{}else{}",
                "while 1{return 1;");
        goesOn(BEGINS_STATEMENT + " } else", "if 1{if 1{}", "if 1{}else{if 1{}", "while 1{if 1{}");
        goesOn("=", "x", "x=1;x", "if 1{x");
        goesOn("{", "if 1{}else");
        goesOn(BEGINS_PART, "x=", "x=1+", "x=1*", "x=1<", "x=-", "x=(", "x=1--", "if", "while", "return", "if 1<", "if(", "return 1*-");
        goesOn(GOES_ON + " ;", "x=1", "x=x", "x=-1", "x=(1)", "x=(1<1)", "x=1+1", "x=1*1-1", "return 1", "if 1{return x");
        goesOn(GOES_ON_COMPARED + " ;", "x=1<1", "x=1<(1<1)", "x=1==1+1", "return(1)<1");
        goesOn(GOES_ON + " )", "x=(1", "x=-(1", "x=1<(1", "if(1*1", "x=((1<1)");
        goesOn(GOES_ON_COMPARED + " )", "x=(1<1", "while(x==x+1");
        goesOn(GOES_ON + " {", "if 1", "while 1", "if x+1", "if(1<1)", "while-1");
        goesOn(GOES_ON_COMPARED + " {", "if 1<1", "while x==(1<1)");
        CHECK.sentence("FAULTS 1 (as above)");
        testsGoOn("test", "", LINE + ";", "test 1 1 1 gives 1 held;");
        testsGoOn("1 -", "test", "test 1", "test -1 -1", "test 1 1 1 gives", LINE + ";test 1");
        testsGoOn("1", "test -", "test 1 -", "test 1 1 1 gives -");
        testsGoOn("gives", "test 1 1 1", "test -1 -1 -1", LINE + ";test 1 1 1");
        testsGoOn("held ;", LINE, "test 1 1 1 gives -1", LINE + ";" + LINE);
        testsGoOn(";", LINE + " held", LINE + ";" + LINE + " held");
    }

    private static void goesOn(String allowed, String... begun) {
        for (String text : begun) {
            for (String token : TOKENS) {
                String all = text + " " + token;
                dueAt(all, Check.program(new ProgramMender(), all), isAmong(allowed, token), text.length() + 1);
            }
        }
    }

    private static void testsGoOn(String allowed, String... begun) {
        for (String text : begun) {
            for (String token : TOKENS) {
                String all = text + " " + token;
                dueAt(all, Check.tests(new ProgramMender(), all), isAmong(allowed, token), text.length() + 1);
            }
        }
    }

    private static boolean isAmong(String tokens, String token) {
        return (" " + tokens + " ").contains(" " + token + " ");
    }

    /** A token that goes on leaves no fault but that of the end; another one is the fault. */
    private static void dueAt(String text, int answer, boolean goesOn, int place) {
        if (!goesOn) {
            CHECK.due("fault in: " + text, answer, Check.fault(place, 1));
        } else if (answer < 0) {
            CHECK.due("the end of: " + text, answer, Check.fault(text.length(), 1));
        }
    }

    private static void nodeNumbers() {
        CHECK.sentence("NODES, numbered from 0 on as they begin in the TEXT");
        kinds("x=1;", 0, 4);
        kinds("return x;x=1;", 3, 5, 0, 4);
        kinds("x=-y;", 0, 6, 5);
        CHECK.sentence("the one with the sign ahead of both its sides, the left side ahead of the right one; ( ) are none");
        kinds("x=1+y;", 0, 7, 4, 5);
        kinds("x=((1)+((y)));", 0, 7, 4, 5);
        kinds("x=-(1+y);", 0, 6, 7, 4, 5);
        kinds("x=-1+y;", 0, 7, 6, 4, 5);
        kinds("x=1+y-2;", 0, 7, 7, 4, 5, 4);
        kinds("x=1+(y-2);", 0, 7, 4, 7, 5, 4);
        kinds("x=1+y*-2<z;", 0, 7, 7, 4, 7, 5, 6, 4, 5);
        CHECK.sentence("In a STATEMENT first E, then what is in its BLOCKS.");
        kinds("if x{}", 1, 5);
        kinds("if x{y=1;}else{return-2;}", 1, 5, 0, 4, 3, 6, 4);
        kinds("while x<1{if y{}else{x=1;}}return z;", 2, 7, 5, 4, 1, 5, 0, 4, 3, 5);
    }

    private static void kinds(String program, int... want) {
        ProgramMender m = new ProgramMender();
        CHECK.due("nodes of " + program, Check.program(m, program), want.length);
        for (int n = 0; n < want.length; n++) {
            CHECK.due("kind of " + n + " in " + program, m.node(n, 0), want[n]);
        }
        CHECK.dueNoNode(m, want.length, 0);
    }

    private static void limits() {
        CHECK.sentence("these are STATEMENTS, 20 at most");
        nodes(40, TWENTY);
        nodes(40, "if x{}".repeat(20));
        nodes(40, "while x{}".repeat(20));
        nodes(40, "return x;".repeat(20));
        nodes(40, "if x{" + "x=1;".repeat(10) + "}else{" + "x=1;".repeat(9) + "}");
        wrong(2, TWENTY + "^x=1;");
        CHECK.sentence("60 NODES at most.");
        String sixty = "x=" + "1+".repeat(29) + "1;";
        nodes(60, sixty);
        nodes(59, "x=" + "1+".repeat(28) + "-1;");
        nodes(60, "x=" + "1+".repeat(28) + "--1;");
        due("x=" + "1+".repeat(28) + "---1;", Check.fault(0, 2));
        due(sixty.replace(";", "*1;"), Check.fault(0, 2));
        due(sixty + "x=1;", Check.fault(0, 2));
        nodes(60, "x=1+1+1;".repeat(10));
        due("x=1+1+1;".repeat(10) + "x=1;", Check.fault(0, 2));
        nodes(60, "x=-1;".repeat(20));
        due("x=-1;".repeat(19) + "x=--1;", Check.fault(0, 2));
        due("x=" + "1+".repeat(298) + "1;", Check.fault(0, 2));
    }

    private static void faults() {
        CHECK.sentence("FAULTS, the one whose place is least");
        wrong(1, "x=^#;y=#;");
        wrong(1, "x=^;y=1000;");
        wrong(1, "x=^1000;y=;");
        wrong(1, "x=1^x=#;");
        wrong(2, TWENTY + "^x=#;");
        wrong(1, "x=^#;" + TWENTY);
        wrong(2, FOUR_BLOCKS + "if x^{#");
        wrong(1, FOUR_BLOCKS + "if x^#{");
        wrong(2, "x=" + EIGHT + "^(1;");
        wrong(1, "x=" + EIGHT + "1^;(((((((((");
        CHECK.sentence("of one place the one that stands first here");
        wrong(1, FOUR_BLOCKS + "^{");
        wrong(1, "x=" + EIGHT + "1^(");
        wrong(1, TWENTY + "^=");
        wrong(1, TWENTY + "^else{}");
        wrong(1, TWENTY + "^{}");
        wrong(1, TWENTY + "^g=1;");
        wrong(1, TWENTY + "^1000");
        wrong(1, "^#" + "x=1;".repeat(30));
        CHECK.sentence("1 the first byte that begins no TOKEN");
        wrong(1, "x=1;^?");
        wrong(1, "x=1^?;");
        wrong(1, "x^?=1;");
        wrong(1, "x=1;^!");
        wrong(1, "x=1^!1;");
        wrong(1, "x=1;^&&");
        CHECK.sentence("a NUMBER that is longer: at its first digit");
        wrong(1, "x=1+^1234+1;");
        wrong(1, "x=1;^1234");
        wrong(1, "if x{}^1234");
        first("x=123", "4;", Check.fault(5, 1));
        CHECK.sentence("(the end: its place)");
        for (String begun : new String[] {"x", "x=", "x=-", "x=(", "x=(1", "x=1", "x=1+", "x=1<", "if", "if x", "if x{", "if x{x=1;",
            "if x{}else", "if x{}else{", "while", "while x", "while x{", "return", "return 1", "x=1;y"}) {
            wrong(1, begun + "^");
            wrong(1, begun + " \n ^");
        }
        wrong(1, " ".repeat(600) + "^");
        wrong(1, "x=1" + " ".repeat(597) + "^");
        first("x=1", ";", Check.fault(3, 1));
        first("x=1<", "=1;", Check.fault(4, 1));
        first("x=1!", "=1;", Check.fault(3, 1));
        first("x=1;i", "f x{}", Check.fault(4, 1));
        first("x=1;", "x", 2);
        first("if x{}", "else", 2);
        first("x=1", "2;", Check.fault(3, 1));
    }

    private static void faultsOfLimits() {
        CHECK.sentence("2 too many: a STATEMENT (at its first TOKEN)");
        wrong(2, TWENTY + "^x");
        wrong(2, TWENTY + " \n^if");
        wrong(2, TWENTY + "^while");
        wrong(2, TWENTY + "^return");
        wrong(2, "if x{" + "x=1;".repeat(19) + "^x=1;}");
        wrong(2, "if x{" + "x=1;".repeat(19) + "}else{^x=1;}");
        wrong(2, "if x{" + "x=1;".repeat(19) + "}^x=1;");
        wrong(2, "x=1;".repeat(19) + "if x{^if x{}}");
        nodes(40, "x=1;".repeat(19) + "if x{}else{}");
        CHECK.sentence("a BLOCK within four others (at its {)");
        nodes(8, FOUR_BLOCKS + "}}}}");
        nodes(10, "x=1;" + FOUR_BLOCKS + "}}}}");
        nodes(8, FOUR_BLOCKS + "}else{}}else{}}else{}}else{}");
        nodes(10, FOUR_BLOCKS + "}while x{}}}}");
        nodes(16, FOUR_BLOCKS + "}}}}" + FOUR_BLOCKS + "}}}}");
        wrong(2, FOUR_BLOCKS + "if x^{}}}}}");
        wrong(2, FOUR_BLOCKS + "while x \n^{}}}}}");
        wrong(2, "x=1;" + FOUR_BLOCKS + "if x^{}}}}}");
        wrong(2, FOUR_BLOCKS + "}}}}" + FOUR_BLOCKS + "if x^{");
        wrong(2, "if x{}else{if x{}else{if x{}else{if x{}else{if x^{}}}}}");
        wrong(1, FOUR_BLOCKS + "if x^}}}}}");
        CHECK.sentence("a ( or - within eight others of these (at it)");
        nodes(2, "x=" + EIGHT + "1" + "))))))));");
        nodes(10, "x=--------1;");
        nodes(6, "x=-(-(-(-(1))));");
        nodes(4, "x=" + EIGHT + "1-1))))))));");
        nodes(4, "x=" + EIGHT + "1))))))))-" + EIGHT + "1))))))));");
        nodes(4, "x=" + EIGHT + "1))))))))+(1);");
        nodes(12, "if " + EIGHT + "x)))))))){x=--------1;}");
        wrong(2, "x=" + EIGHT + "^(1)))))))));");
        wrong(2, "x=" + EIGHT + "^-1))))))));");
        wrong(2, "x=" + EIGHT + "1-^-1))))))));");
        wrong(2, "x=" + EIGHT + "1+^(1)))))))));");
        wrong(2, "x=--------^-1;");
        wrong(2, "x=--------^(1);");
        wrong(2, "x=(-(-(-(-^(-1)))));");
        wrong(2, "x=1+" + EIGHT + "^(1)))))))));");
        wrong(2, "if " + EIGHT + "^(x)))))))))){}");
        wrong(2, "return " + EIGHT + "\n ^(");
        CHECK.sentence("if there is none of these, at place 0: more than 60 NODES.");
        String many = "x=" + "1+".repeat(30) + "1;";
        due(many, Check.fault(0, 2));
        due("  " + many, Check.fault(0, 2));
        wrong(1, many + "^#");
        wrong(1, many + "x=1^");
        wrong(1, many.replace(";", "^#"));
        wrong(2, many + "x=1;".repeat(19) + "^x=1;");
        wrong(2, many + FOUR_BLOCKS + "if x^{");
        wrong(2, many + "x=" + EIGHT + "^(1;");
    }

    private static void suites() {
        CHECK.sentence("TESTS are a TEXT likewise: LINE { ; LINE }: test N N N gives N [ held ]");
        tests(1, LINE);
        tests(2, LINE + ";" + LINE);
        tests(2, "test0 0 0gives0held;\n\ntest 0\n0 0 gives 0 held \n");
        wrongTests(1, "^");
        wrongTests(1, "  ^");
        wrongTests(1, LINE + ";^");
        wrongTests(1, "^;" + LINE);
        wrongTests(1, LINE + ";^;" + LINE);
        wrongTests(1, "^tesu 0 0 0 gives 0");
        wrongTests(1, "^best 0 0 0 gives 0");
        wrongTests(1, "test 0 0 0 ^lives 0");
        wrongTests(1, "test 0 0 0 gives 0 ^hel");
        wrongTests(1, "test 0 0 0 gives 0 ^weld");
        wrongTests(1, "test 0 0 0 gives 0 held ^held");
        wrongTests(1, "test 0 0 0 ^0 gives 0");
        wrongTests(1, "test 0 0 ^gives 0");
        wrongTests(1, "test 0 0 0 gives 0 ^0");
        wrongTests(1, "test 0 0 0 gives 0^.");
        for (String begun : new String[] {"test", "test 0", "test 0 0", "test 0 0 0", "test 0 0 0 gives", "test -", "test 0 0 0 gives -"}) {
            wrongTests(1, begun + "^");
            wrongTests(1, begun + " \n^");
        }
        CHECK.sentence("N: NUMBER, perhaps with - ahead");
        due4("test 0 999 000 gives 1", 0, 999, 0, 1);
        due4("test -0 -999 - 1 gives -\n1", 0, -999, -1, -1);
        wrongTests(1, "test -^-1 0 0 gives 0");
        wrongTests(1, "test 0 0 0 gives ^+1");
        wrongTests(1, "test 0 0 0 gives -^x");
        wrongTests(1, "test 0 0 0 gives ^(1)");
        wrongTests(1, "test ^1000 0 0 gives 0");
        wrongTests(1, "test 0 0 0 gives -^1000");
        CHECK.sentence("16 at most, numbered from 0 on");
        String sixteen = (LINE + ";").repeat(15) + "test 1 2 3 gives 4 held";
        tests(16, sixteen);
        ProgramMender m = new ProgramMender();
        Check.tests(m, sixteen);
        CHECK.due("the first", m.test(0, 4), 0);
        CHECK.due("the last", m.test(15, 4), 1);
        CHECK.dueNoTest(m, 16, 4);
        CHECK.sentence("SHOWN, but HELD ones.");
        CHECK.due("held", m.count(3), 1);
        CHECK.due("of all", m.count(2), 16);
        CHECK.sentence("2 the word test of a 17th.");
        wrongTests(2, sixteen + ";^test");
        wrongTests(2, sixteen + "; \n^" + LINE);
        wrongTests(2, sixteen + ";^" + LINE + ";" + LINE);
        wrongTests(2, sixteen + ";^test #");
        wrongTests(1, sixteen + " ^test");
        wrongTests(1, sixteen + ";^");
        wrongTests(1, sixteen + ";^tests");
        wrongTests(1, sixteen + ";^held");
        wrongTests(1, "test ^held;" + sixteen);
    }

    private static void due(String program, int want) {
        CHECK.due("program: " + program, Check.program(new ProgramMender(), program), want);
    }

    private static void nodes(int want, String program) {
        due(program, want);
    }

    private static void wrong(int kind, String marked) {
        due(marked.replace("^", ""), Check.fault(marked.indexOf('^'), kind));
    }

    /** What stands behind the first bytes is on the tape, but not in the text. */
    private static void first(String text, String behind, int want) {
        ProgramMender m = new ProgramMender();
        Check.feed(m, text + behind);
        CHECK.due("program: " + text + ", ahead of " + behind, m.program(text.length()), want);
    }

    private static void number(String told, int want) {
        ProgramMender m = new ProgramMender();
        CHECK.due("x=" + told, Check.program(m, "x=" + told + ";"), 2);
        CHECK.due("the number " + told, m.node(1, 1), want);
    }

    private static void tests(int want, String suite) {
        CHECK.due("tests: " + suite, Check.tests(new ProgramMender(), suite), want);
    }

    private static void wrongTests(int kind, String marked) {
        tests(Check.fault(marked.indexOf('^'), kind), marked.replace("^", ""));
    }

    private static void due4(String suite, int... want) {
        ProgramMender m = new ProgramMender();
        CHECK.due("tests: " + suite, Check.tests(m, suite), 1);
        for (int what = 0; what < want.length; what++) {
            CHECK.due(suite + ": " + what, m.test(0, what), want[what]);
        }
    }
}
