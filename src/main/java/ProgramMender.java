import java.util.Arrays;
import java.util.NoSuchElementException;

/**
 * A mender of programs: a small program, told as a text, is run by tests; its statements are ranked
 * by how suspect the runs make them; small changes are tried, told in order, taken and taken back.
 */
public final class ProgramMender {
    /** None; refused. */
    public static final int NONE = -1;

    private static final int NONE_FOUND = -2;
    private static final int NOTHING_MADE = -100;
    private static final int REFUSED = -200;

    private static final int MOST_BYTES = 600;
    private static final int MOST_NODES = 60;
    private static final int MOST_STATEMENTS = 20;
    private static final int MOST_BLOCKS_AROUND = 4;
    private static final int MOST_PARTS_AROUND = 8;
    private static final int MOST_TESTS = 16;
    private static final int MOST_STEPS = 300;
    private static final int MOST_TAKEN = 20;
    private static final int PAIR_SUSPECTS = 6;
    private static final int RULES = 3;
    private static final int FAR_SCORE = 1000;
    private static final int LEAST_VALUE = -99;
    private static final int GREATEST_VALUE = 99;

    private static final String VARIABLES = "xyzabcdef";
    private static final int VARIABLE_COUNT = 9;
    /** No node has more changes than a variable has other variables. */
    private static final int MOST_CHANGES = MOST_NODES * (VARIABLE_COUNT - 1);

    private static final int ASSIGN = 0;
    private static final int IF = 1;
    private static final int WHILE = 2;
    private static final int RETURN = 3;
    private static final int NUMBER = 4;
    private static final int VARIABLE = 5;
    private static final int MINUS = 6;
    private static final int SIDES = 7;

    private static final int PLUS_SIGN = 0;
    private static final int MINUS_SIGN = 1;
    private static final int TIMES_SIGN = 2;
    private static final int BY_SIGN = 3;
    private static final int REST_SIGN = 4;
    private static final int LESS = 5;
    private static final int AT_MOST = 6;
    private static final int EQUAL = 7;
    private static final int UNEQUAL = 8;
    private static final int MORE = 9;
    private static final int AT_LEAST = 10;

    private static final int AS_TOLD = 0;
    private static final int LEFT_OUT = 1;
    private static final int DENIED = 2;
    private static final int SWAPPED = 3;

    private static final int ENDED = 0;
    private static final int CRASHED = 1;
    private static final int HANGS = 2;

    private static final int WRONG_TEXT = 1;
    private static final int TOO_MANY = 2;

    private final byte[] tape = new byte[MOST_BYTES];
    private int tapeLength;
    private final ProgramReader programReader;
    private final SuiteReader suiteReader;
    private final Code code = new Code();
    private final Suite suite = new Suite();
    /** Texts are read into these first, so that a fault leaves all as it was. */
    private final Code draft = new Code();
    private final Suite suiteDraft = new Suite();
    private final Machine machine;
    private final Runs runs;
    private final Ranking ranking;
    private final Mends mends;
    private final Pairs pairs;
    private final WhatIf whatIf;
    private boolean runsKnown;

    /** No program, no tests. */
    public ProgramMender() {
        Scanner scanner = new Scanner(tape);
        programReader = new ProgramReader(scanner);
        suiteReader = new SuiteReader(scanner);
        machine = new Machine(code, suite);
        runs = new Runs(code, suite, machine);
        ranking = new Ranking(code, runs);
        mends = new Mends(code, suite, machine, runs, ranking);
        pairs = new Pairs(code, suite, machine, runs, ranking);
        whatIf = new WhatIf(code, machine, runs);
    }

    /** Twenty bytes come behind the tape: how many it has, or NONE if they have no room. */
    public int feed(int a, int b, int c, int d, int e) {
        if (tapeLength + 20 > MOST_BYTES) {
            return NONE;
        }
        append(a);
        append(b);
        append(c);
        append(d);
        append(e);
        return tapeLength;
    }

    /** The first n bytes of the tape are the program now: how many nodes, NONE, or a fault. */
    public int program(int n) {
        if (n < 0 || n > tapeLength) {
            return NONE;
        }
        tapeLength = 0;
        int fault = programReader.read(n, draft);
        if (fault != 0) {
            return NONE_FOUND - fault;
        }
        programReader.read(n, code);
        forgetAnswers();
        return code.size;
    }

    /** The first n bytes of the tape are the tests now: how many, NONE, or a fault. */
    public int tests(int n) {
        if (n < 0 || n > tapeLength) {
            return NONE;
        }
        tapeLength = 0;
        int fault = suiteReader.read(n, suiteDraft);
        if (fault != 0) {
            return NONE_FOUND - fault;
        }
        suiteReader.read(n, suite);
        forgetAnswers();
        return suite.size;
    }

    /** Of a node: kind, what it holds, the node around it, its statement, how it is changed. */
    public int node(int node, int what) throws NoSuchElementException {
        if (!code.hasNode(node)) {
            throw new NoSuchElementException("no such node");
        }
        switch (what) {
            case 0:
                return code.kind[node];
            case 1:
                return code.told(node);
            case 2:
                return code.parent[node];
            case 3:
                return code.owner[node];
            case 4:
                return code.isGone(node) ? LEFT_OUT : code.mark[node];
            default:
                throw new NoSuchElementException("nothing such is told of a node");
        }
    }

    /** Of a test: x, y, z, what is due, whether it is held. */
    public int test(int test, int what) throws NoSuchElementException {
        if (!suite.hasTest(test) || what < 0 || what >= Suite.ROW) {
            throw new NoSuchElementException("no such test, or nothing such is told of it");
        }
        return suite.rows[test][what];
    }

    /** Of a test's run: how it ended, what it returned, its steps, whether the test passes. */
    public int run(int test, int what) {
        if (!hasRun(test)) {
            return NONE;
        }
        switch (what) {
            case 0:
                return runs.how[test];
            case 1:
                return runs.result[test];
            case 2:
                return runs.steps[test];
            case 3:
                return runs.passing[test] ? 1 : 0;
            default:
                return NONE;
        }
    }

    /** How often a statement is done in a test's run. */
    public int done(int test, int node) {
        if (!hasRun(test) || !code.hasStatement(node)) {
            return NONE;
        }
        return runs.times[test][node];
    }

    /** The statement that is the k-th step of a test's run. */
    public int trace(int test, int k) {
        if (!hasRun(test) || k < 0 || k >= runs.steps[test]) {
            return NONE;
        }
        return runs.trace[test][k];
    }

    /** Shown tests that fail or pass, and do a statement or don't. */
    public int spectrum(int node, int what) {
        if (!code.hasStatement(node)) {
            return NONE;
        }
        learnRuns();
        switch (what) {
            case 0:
                return ranking.failing[node];
            case 1:
                return ranking.passing[node];
            case 2:
                return runs.shownFailing - ranking.failing[node];
            case 3:
                return runs.shownPassing - ranking.passing[node];
            default:
                return NONE;
        }
    }

    /** A statement's score by a rule, above or below the line, in lowest terms. */
    public int score(int rule, int node, int what) {
        if (rule < 0 || rule >= RULES || !code.hasStatement(node)) {
            return NONE;
        }
        learnRuns();
        switch (what) {
            case 0:
                return ranking.above[rule][node];
            case 1:
                return ranking.below[rule][node];
            default:
                return NONE;
        }
    }

    /** The k-th statement as ranked by a rule. */
    public int suspect(int rule, int k) {
        if (rule < 0 || rule >= RULES || k < 0 || k >= code.statements) {
            return NONE;
        }
        learnRuns();
        return ranking.order[rule][k];
    }

    /** How many changes a node has. */
    public int changes(int node) {
        return code.hasNode(node) ? code.changeCount(node) : NONE;
    }

    /** Of a change: shown and held tests that pass with it, whether it is a mend, what it makes. */
    public int change(int node, int change, int what) {
        if (!code.hasChange(node, change)) {
            return REFUSED;
        }
        switch (what) {
            case 0:
                return passingWith(node, change, false);
            case 1:
                return passingWith(node, change, true);
            case 2:
                learnRuns();
                return runs.shownFailing > 0 && passingWith(node, change, false) == suite.shownCount() ? 1 : 0;
            case 3:
                return code.makes(node, change);
            default:
                return REFUSED;
        }
    }

    /** Of the k-th mend: node, change, held tests that pass, overfit, the first one alike; k NONE: how many. */
    public int mend(int k, int what) {
        learnMends();
        if (k == NONE) {
            return mends.many;
        }
        if (k < 0 || k >= mends.many) {
            return NONE;
        }
        switch (what) {
            case 0:
                return mends.node[k];
            case 1:
                return mends.change[k];
            case 2:
                return mends.heldPassing[k];
            case 3:
                return mends.heldPassing[k] < suite.heldCount ? 1 : 0;
            case 4:
                return mends.alike[k];
            default:
                return NONE;
        }
    }

    /** How many mends there are of which no two are alike. */
    public int unlike() {
        learnMends();
        return mends.kinds();
    }

    /** The first of the mends with which most held tests pass. */
    public int best() {
        learnMends();
        return mends.fittest();
    }

    /** The pair: lesser node, its change, other node, its change, held tests that pass. */
    public int pair(int what) {
        if (what < 0 || what > 4) {
            return NONE;
        }
        learnMends();
        pairs.find(mends.many);
        if (!pairs.found) {
            return NONE_FOUND;
        }
        switch (what) {
            case 0:
                return pairs.firstNode;
            case 1:
                return pairs.firstChange;
            case 2:
                return pairs.otherNode;
            case 3:
                return pairs.otherChange;
            default:
                return pairs.heldPassing;
        }
    }

    /** Of the values with which all shown tests pass: how many, least, greatest, nearest. */
    public int values(int node, int what) {
        if (what < 0 || what > 3 || !code.hasNode(node) || code.kind[node] != NUMBER || code.isGone(node)) {
            return REFUSED;
        }
        learnRuns();
        whatIf.tryValues(node);
        if (what == 0) {
            return whatIf.many;
        }
        if (whatIf.many == 0) {
            return REFUSED;
        }
        return what == 1 ? whatIf.least : what == 2 ? whatIf.greatest : whatIf.nearest;
    }

    /** How many shown tests would pass if a condition came out so, or not, each time. */
    public int forced(int node, boolean so) {
        if (!code.isCondition(node) || code.isGone(node)) {
            return NONE;
        }
        return whatIf.passingIfForced(node, so);
    }

    /** The first asking by which, if it alone came out the other way, the test would pass. */
    public int flip(int test) {
        if (!hasRun(test) || runs.passing[test]) {
            return NONE;
        }
        return whatIf.mendingAsking(test);
    }

    /** A change is taken: how many are. */
    public int take(int node, int change) {
        if (!code.hasChange(node, change) || code.taken >= MOST_TAKEN) {
            return NONE;
        }
        code.keepChange(node, change);
        forgetAnswers();
        return code.taken;
    }

    /** The latest change is taken back: how many are left. */
    public int undo() {
        if (code.taken == 0) {
            return NONE;
        }
        code.dropLatest();
        forgetAnswers();
        return code.taken;
    }

    /** Counts of nodes, statements, tests and what else there is. */
    public int count(int what) {
        switch (what) {
            case 0:
                return code.size;
            case 1:
                return code.statements;
            case 2:
                return suite.size;
            case 3:
                return suite.heldCount;
            case 4:
                learnRuns();
                return runs.shownPassing;
            case 5:
                learnRuns();
                return runs.heldPassing;
            case 6:
                return code.variableCount();
            case 7:
                return code.taken;
            case 8:
                return tapeLength;
            case 9:
                return code.allChanges();
            default:
                return NONE;
        }
    }

    private void append(int four) {
        for (int shift = 24; shift >= 0; shift -= 8) {
            if (tapeLength < MOST_BYTES) {
                tape[tapeLength] = (byte) (four >> shift);
                tapeLength++;
            }
        }
    }

    private boolean hasRun(int test) {
        if (code.size == 0 || !suite.hasTest(test)) {
            return false;
        }
        learnRuns();
        return true;
    }

    private void learnRuns() {
        if (!runsKnown) {
            runsKnown = true;
            runs.learn();
            ranking.learn();
        }
    }

    private void learnMends() {
        learnRuns();
        mends.find();
    }

    private void forgetAnswers() {
        runsKnown = false;
        mends.known = false;
        pairs.known = false;
        whatIf.valuesNode = NONE;
    }

    private int passingWith(int node, int change, boolean held) {
        int value = code.value[node];
        int mark = code.mark[node];
        code.apply(node, change);
        int passing = machine.countPassing(held);
        code.restore(node, value, mark);
        return passing;
    }

    /**
     * Cuts the first bytes of the tape into tokens. The first fault is kept, and behind it every
     * token is WRONG, so that a reader comes to its end without looking at the fault everywhere.
     */
    private static final class Scanner {
        static final int END = 0;
        static final int WRONG = 1;
        static final int WORD = 2;
        static final int NUMERAL = 3;
        static final int SIGN = 4;
        static final int MARK = 5;

        private static final int MOST_DIGITS = 3;
        private static final String ARITHMETIC = "+-*/%";
        private static final String MARKS = "=(){};";

        private final byte[] text;
        private int length;
        private int next;
        private int place;
        int type;
        int value;
        /** 0, or 8 * place + kind. */
        int fault;

        Scanner(byte[] text) {
            this.text = text;
        }

        void start(int n) {
            length = Math.max(0, Math.min(n, text.length));
            next = 0;
            fault = 0;
            advance();
        }

        void refuse(int kind) {
            if (fault == 0) {
                fault = 8 * place + kind;
                type = WRONG;
            }
        }

        void advance() {
            if (fault != 0) {
                return;
            }
            while (next < length && (text[next] == ' ' || text[next] == '\n')) {
                next++;
            }
            place = next;
            value = 0;
            int sign = byteAt(next);
            if (next >= length) {
                type = END;
            } else if (sign >= 'a' && sign <= 'z') {
                scanWord();
            } else if (sign >= '0' && sign <= '9') {
                scanNumeral();
            } else {
                scanSign(sign, byteAt(next + 1) == '=' ? signBeforeEqual(sign) : NONE, signAlone(sign));
            }
            if (type == WRONG) {
                refuse(WRONG_TEXT);
            }
        }

        private void scanWord() {
            type = WORD;
            while (next < length && text[next] >= 'a' && text[next] <= 'z') {
                next++;
            }
        }

        private void scanNumeral() {
            while (next < length && text[next] >= '0' && text[next] <= '9') {
                if (next - place < MOST_DIGITS) {
                    value = 10 * value + text[next] - '0';
                }
                next++;
            }
            type = next - place <= MOST_DIGITS ? NUMERAL : WRONG;
        }

        private void scanSign(int sign, int joined, int alone) {
            boolean mark = MARKS.indexOf((char) sign) >= 0;
            type = joined != NONE || alone != NONE ? SIGN : mark ? MARK : WRONG;
            value = joined != NONE ? joined : alone != NONE ? alone : sign;
            next += joined != NONE ? 2 : 1;
        }

        private static int signBeforeEqual(int sign) {
            switch (sign) {
                case '<':
                    return AT_MOST;
                case '>':
                    return AT_LEAST;
                case '=':
                    return EQUAL;
                case '!':
                    return UNEQUAL;
                default:
                    return NONE;
            }
        }

        private static int signAlone(int sign) {
            switch (sign) {
                case '<':
                    return LESS;
                case '>':
                    return MORE;
                default:
                    return ARITHMETIC.indexOf((char) sign);
            }
        }

        boolean isMark(char mark) {
            return type == MARK && value == mark;
        }

        boolean isSign(int sign) {
            return type == SIGN && value == sign;
        }

        boolean isWord(String word) {
            if (type != WORD || next - place != word.length()) {
                return false;
            }
            for (int i = 0; i < word.length(); i++) {
                if (byteAt(place + i) != word.charAt(i)) {
                    return false;
                }
            }
            return true;
        }

        /** The number of the variable that the token is, or NONE. */
        int variable() {
            return type == WORD && next - place == 1 ? VARIABLES.indexOf((char) byteAt(place)) : NONE;
        }

        void expectMark(char mark) {
            if (!isMark(mark)) {
                refuse(WRONG_TEXT);
            }
            advance();
        }

        void expectWord(String word) {
            if (!isWord(word)) {
                refuse(WRONG_TEXT);
            }
            advance();
        }

        private int byteAt(int i) {
            return i >= 0 && i < length ? text[i] & 255 : 0;
        }
    }

    /** Reads a program: what the grammar asks at each token, and the limits on what may stand there. */
    private static final class ProgramReader {
        private static final int COMPARE_LEVEL = 0;
        private static final int SUM_LEVEL = 1;
        private static final int TERM_LEVEL = 2;

        private final Scanner scanner;
        private Code code;

        ProgramReader(Scanner scanner) {
            this.scanner = scanner;
        }

        /** 0, or the fault as 8 * place + kind; only without one is the code fit to run. */
        int read(int n, Code into) {
            code = into;
            code.clear();
            scanner.start(n);
            readStatement(NONE, 0, 0);
            for (int i = 0; i < MOST_BYTES && scanner.fault == 0 && scanner.type != Scanner.END; i++) {
                readStatement(NONE, 0, 0);
            }
            if (scanner.fault != 0) {
                return scanner.fault;
            }
            if (code.size > MOST_NODES) {
                return TOO_MANY;
            }
            code.link();
            return 0;
        }

        private void readStatement(int parent, int branch, int depth) {
            int kind = statementKind();
            if (kind == NONE || code.statements >= MOST_STATEMENTS) {
                scanner.refuse(kind == NONE ? WRONG_TEXT : TOO_MANY);
                return;
            }
            int at = code.size;
            code.addStatement(kind, scanner.variable(), parent, branch);
            scanner.advance();
            if (kind == ASSIGN) {
                scanner.expectMark('=');
            }
            readSides(COMPARE_LEVEL, 0);
            if (kind == ASSIGN || kind == RETURN) {
                scanner.expectMark(';');
                return;
            }
            readBlock(at, 0, depth);
            if (kind == IF && scanner.isWord("else")) {
                scanner.advance();
                readBlock(at, 1, depth);
            }
        }

        private int statementKind() {
            if (scanner.variable() != NONE) {
                return ASSIGN;
            }
            if (scanner.isWord("if")) {
                return IF;
            }
            if (scanner.isWord("while")) {
                return WHILE;
            }
            return scanner.isWord("return") ? RETURN : NONE;
        }

        private void readBlock(int parent, int branch, int depth) {
            if (scanner.isMark('{') && depth >= MOST_BLOCKS_AROUND) {
                scanner.refuse(TOO_MANY);
                return;
            }
            scanner.expectMark('{');
            for (int i = 0; i < MOST_BYTES && scanner.fault == 0 && !scanner.isMark('}'); i++) {
                readStatement(parent, branch, depth + 1);
            }
            scanner.expectMark('}');
        }

        /** Each sign goes ahead of all that its level has read so far: that is its left side. */
        private void readSides(int level, int depth) {
            if (level > TERM_LEVEL) {
                readPart(depth);
                return;
            }
            int from = code.size;
            readSides(level + 1, depth);
            int most = level == COMPARE_LEVEL ? 1 : MOST_BYTES;
            for (int i = 0; i < most && scanner.type == Scanner.SIGN && levelOf(scanner.value) == level; i++) {
                code.insert(from, SIDES, scanner.value);
                scanner.advance();
                readSides(level + 1, depth);
            }
        }

        private void readPart(int depth) {
            boolean opens = scanner.isMark('(');
            boolean negates = scanner.isSign(MINUS_SIGN);
            int variable = scanner.variable();
            if ((opens || negates) && depth >= MOST_PARTS_AROUND) {
                scanner.refuse(TOO_MANY);
            } else if (opens) {
                scanner.advance();
                readSides(COMPARE_LEVEL, depth + 1);
                scanner.expectMark(')');
            } else if (negates) {
                code.insert(code.size, MINUS, 0);
                scanner.advance();
                readPart(depth + 1);
            } else if (scanner.type == Scanner.NUMERAL) {
                code.insert(code.size, NUMBER, scanner.value);
                scanner.advance();
            } else if (variable != NONE) {
                code.insert(code.size, VARIABLE, variable);
                scanner.advance();
            } else {
                scanner.refuse(WRONG_TEXT);
            }
        }

        private static int levelOf(int sign) {
            if (sign >= LESS) {
                return COMPARE_LEVEL;
            }
            return sign >= TIMES_SIGN ? TERM_LEVEL : SUM_LEVEL;
        }
    }

    /** Reads tests. */
    private static final class SuiteReader {
        private final Scanner scanner;
        private Suite suite;

        SuiteReader(Scanner scanner) {
            this.scanner = scanner;
        }

        /** 0, or the fault as 8 * place + kind. */
        int read(int n, Suite into) {
            suite = into;
            suite.clear();
            scanner.start(n);
            readLine();
            for (int i = 0; i < MOST_BYTES && scanner.isMark(';'); i++) {
                scanner.advance();
                readLine();
            }
            if (scanner.type != Scanner.END) {
                scanner.refuse(WRONG_TEXT);
            }
            return scanner.fault;
        }

        private void readLine() {
            if (scanner.isWord("test") && suite.size >= MOST_TESTS) {
                scanner.refuse(TOO_MANY);
                return;
            }
            scanner.expectWord("test");
            int x = readNumber();
            int y = readNumber();
            int z = readNumber();
            scanner.expectWord("gives");
            int due = readNumber();
            boolean held = scanner.isWord("held");
            if (held) {
                scanner.advance();
            }
            suite.add(x, y, z, due, held);
        }

        private int readNumber() {
            boolean negative = scanner.isSign(MINUS_SIGN);
            if (negative) {
                scanner.advance();
            }
            if (scanner.type != Scanner.NUMERAL) {
                scanner.refuse(WRONG_TEXT);
            }
            int number = scanner.value;
            scanner.advance();
            return negative ? -number : number;
        }
    }

    /**
     * A program as rows over its nodes. A statement's expression stands in the nodes right behind
     * it, each sign ahead of its sides, so all that a change does is done in one node's row.
     */
    private static final class Code {
        final int[] kind = new int[MOST_NODES];
        final int[] value = new int[MOST_NODES];
        final int[] mark = new int[MOST_NODES];
        final int[] parent = new int[MOST_NODES];
        final int[] owner = new int[MOST_NODES];
        /** The right side of a node with a sign; the left one is the next node. */
        final int[] second = new int[MOST_NODES];
        /** The last node of an expression; of a statement, that of its own expression. */
        final int[] last = new int[MOST_NODES];
        /** Of a statement: what comes when it is over, when it comes out so, when not. */
        final int[] after = new int[MOST_NODES];
        final int[] inner = new int[MOST_NODES];
        final int[] other = new int[MOST_NODES];
        private final int[] branch = new int[MOST_NODES];
        final int[] statementAt = new int[MOST_STATEMENTS];
        private final int[] takenNode = new int[MOST_TAKEN];
        private final int[] valueBefore = new int[MOST_TAKEN];
        private final int[] markBefore = new int[MOST_TAKEN];
        int size;
        int statements;
        int taken;
        private int variables;

        void clear() {
            size = 0;
            statements = 0;
            taken = 0;
            variables = 0;
            Arrays.fill(mark, AS_TOLD);
        }

        void addStatement(int newKind, int variable, int in, int side) {
            if (statements < MOST_STATEMENTS) {
                statementAt[statements] = size;
                statements++;
            }
            if (size < MOST_NODES) {
                parent[size] = in;
                branch[size] = side;
            }
            insert(size, newKind, variable);
        }

        /** Nodes behind the room are counted alone: such a program is refused. */
        void insert(int at, int newKind, int newValue) {
            if (size < MOST_NODES && at >= 0 && at <= size) {
                System.arraycopy(kind, at, kind, at + 1, size - at);
                System.arraycopy(value, at, value, at + 1, size - at);
                kind[at] = newKind;
                value[at] = newValue;
            }
            size++;
            if ((newKind == ASSIGN || newKind == VARIABLE) && newValue >= 0) {
                variables |= 1 << newValue;
            }
        }

        void link() {
            for (int i = 0; i < statements; i++) {
                int statement = statementAt[i];
                last[statement] = (i + 1 < statements ? statementAt[i + 1] : size) - 1;
                owner[statement] = statement;
                linkExpression(statement);
                linkWays(statement);
            }
        }

        /** From the back, for where a right side begins is known by where the left one ends. */
        private void linkExpression(int statement) {
            for (int n = last[statement]; n > statement; n--) {
                owner[n] = statement;
                last[n] = n;
                if (kind[n] == MINUS || kind[n] == SIDES) {
                    parent[n + 1] = n;
                    last[n] = last[n + 1];
                }
                if (kind[n] == SIDES) {
                    second[n] = last[n + 1] + 1;
                    parent[second[n]] = n;
                    last[n] = last[second[n]];
                }
            }
            parent[statement + 1] = statement;
        }

        /** A parent's ways are known ahead of those of the statements in it. */
        private void linkWays(int statement) {
            int in = parent[statement];
            int next = firstIn(in, branch[statement], statement + 1);
            if (next == NONE && in != NONE) {
                next = kind[in] == WHILE ? in : after[in];
            }
            after[statement] = next;
            int first = firstIn(statement, 0, statement + 1);
            inner[statement] = first != NONE ? first : kind[statement] == WHILE ? statement : next;
            int otherwise = firstIn(statement, 1, statement + 1);
            other[statement] = otherwise != NONE ? otherwise : next;
        }

        private int firstIn(int in, int side, int from) {
            for (int i = 0; i < statements; i++) {
                int statement = statementAt[i];
                if (statement >= from && parent[statement] == in && branch[statement] == side) {
                    return statement;
                }
            }
            return NONE;
        }

        boolean hasNode(int node) {
            return node >= 0 && node < size;
        }

        boolean hasStatement(int node) {
            return hasNode(node) && kind[node] <= RETURN;
        }

        boolean isCondition(int node) {
            return hasNode(node) && (kind[node] == IF || kind[node] == WHILE);
        }

        boolean hasChange(int node, int change) {
            return hasNode(node) && change >= 0 && change < changeCount(node);
        }

        int told(int node) {
            switch (kind[node]) {
                case ASSIGN:
                case NUMBER:
                case VARIABLE:
                case SIDES:
                    return value[node];
                default:
                    return NOTHING_MADE;
            }
        }

        /** What is behind a minus that is left out stays; what is in such a statement does not. */
        boolean isGone(int node) {
            if (mark[node] == LEFT_OUT) {
                return true;
            }
            int statement = owner[node];
            for (int up = 0; up < MOST_STATEMENTS && statement != NONE; up++) {
                if (mark[statement] == LEFT_OUT) {
                    return true;
                }
                statement = parent[statement];
            }
            return false;
        }

        int variableCount() {
            return Integer.bitCount(variables);
        }

        int allChanges() {
            int all = 0;
            for (int n = 0; n < size; n++) {
                all += changeCount(n);
            }
            return all;
        }

        int changeCount(int node) {
            if (isGone(node)) {
                return 0;
            }
            switch (kind[node]) {
                case IF:
                case WHILE:
                    return 2;
                case NUMBER:
                    return value[node] >= -1 && value[node] <= 1 ? 2 : 3;
                case VARIABLE:
                    return variableCount() - 1;
                case SIDES:
                    return value[node] == PLUS_SIGN || value[node] == TIMES_SIGN ? 4 : 5;
                default:
                    return 1;
            }
        }

        /** The number, variable or sign that a change makes. */
        int makes(int node, int change) {
            switch (kind[node]) {
                case NUMBER:
                    return change == 0 ? value[node] + 1 : change == 1 ? value[node] - 1 : 0;
                case VARIABLE:
                    return otherVariable(value[node], change);
                case SIDES:
                    return otherSign(value[node], change);
                default:
                    return NOTHING_MADE;
            }
        }

        private int otherVariable(int now, int change) {
            int left = change;
            for (int v = 0; v < VARIABLE_COUNT; v++) {
                if (v != now && (variables >> v & 1) == 1) {
                    if (left == 0) {
                        return v;
                    }
                    left--;
                }
            }
            return NOTHING_MADE;
        }

        private static int otherSign(int now, int change) {
            int first = now >= LESS ? LESS : PLUS_SIGN;
            int end = now >= LESS ? AT_LEAST : REST_SIGN;
            int sign = first + change < now ? first + change : first + change + 1;
            return sign <= end ? sign : NOTHING_MADE;
        }

        void apply(int node, int change) {
            switch (kind[node]) {
                case NUMBER:
                case VARIABLE:
                    value[node] = makes(node, change);
                    break;
                case SIDES:
                    changeSides(node, makes(node, change));
                    break;
                case IF:
                case WHILE:
                    mark[node] = change == 1 ? LEFT_OUT : mark[node] == DENIED ? AS_TOLD : DENIED;
                    break;
                default:
                    mark[node] = LEFT_OUT;
                    break;
            }
        }

        private void changeSides(int node, int sign) {
            if (sign != NOTHING_MADE) {
                value[node] = sign;
            } else {
                mark[node] = mark[node] == SWAPPED ? AS_TOLD : SWAPPED;
            }
        }

        void restore(int node, int oldValue, int oldMark) {
            value[node] = oldValue;
            mark[node] = oldMark;
        }

        void keepChange(int node, int change) {
            if (taken < MOST_TAKEN) {
                takenNode[taken] = node;
                valueBefore[taken] = value[node];
                markBefore[taken] = mark[node];
                taken++;
                apply(node, change);
            }
        }

        void dropLatest() {
            if (taken > 0) {
                taken--;
                restore(takenNode[taken], valueBefore[taken], markBefore[taken]);
            }
        }
    }

    /** The tests: x, y, z, what is due, and 1 if held. */
    private static final class Suite {
        static final int ROW = 5;
        static final int DUE = 3;
        static final int HELD = 4;

        final int[][] rows = new int[MOST_TESTS][ROW];
        int size;
        int heldCount;

        void clear() {
            size = 0;
            heldCount = 0;
        }

        void add(int x, int y, int z, int due, boolean held) {
            if (size < MOST_TESTS) {
                int[] row = rows[size];
                row[0] = x;
                row[1] = y;
                row[2] = z;
                row[DUE] = due;
                row[HELD] = held ? 1 : 0;
                heldCount += row[HELD];
                size++;
            }
        }

        boolean hasTest(int test) {
            return test >= 0 && test < size;
        }

        boolean isHeld(int test) {
            return rows[test][HELD] == 1;
        }

        boolean isShown(int test) {
            return hasTest(test) && !isHeld(test);
        }

        int shownCount() {
            return size - heldCount;
        }
    }

    /** Runs the program as it is now by one test at a time, and tells of the latest run. */
    private static final class Machine {
        /** Ahead of each step there are at most all statements to pass by that are left out. */
        private static final int MOST_MOVES = (MOST_STEPS + 1) * (MOST_STATEMENTS + 1);

        private final Code code;
        private final Suite suite;
        private final int[] variables = new int[VARIABLE_COUNT];
        private final int[] outcome = new int[MOST_NODES];
        final int[] trace = new int[MOST_STEPS];
        int steps;
        int how;
        int result;
        int askings;
        /**
         * The statements that the run has come to, a bit for each node: those that it has done, and
         * the one at which it hangs, for without that one it could go on.
         */
        long reached;
        int forcedNode = NONE;
        boolean forcedSo;
        int flippedAsking = NONE;
        /** The shown test that failed last: likely to fail again, so it goes ahead. */
        private int likelyFailing;

        Machine(Code code, Suite suite) {
            this.code = code;
            this.suite = suite;
        }

        boolean allShownPass() {
            int ahead = likelyFailing;
            if (suite.isShown(ahead) && !passes(ahead)) {
                return false;
            }
            for (int t = 0; t < suite.size; t++) {
                if (t != ahead && suite.isShown(t) && !passes(t)) {
                    likelyFailing = t;
                    return false;
                }
            }
            return true;
        }

        int countPassing(boolean held) {
            int passing = 0;
            for (int t = 0; t < suite.size; t++) {
                if (suite.isHeld(t) == held && passes(t)) {
                    passing++;
                }
            }
            return passing;
        }

        /** Runs the program by a test. */
        boolean passes(int test) {
            Arrays.fill(variables, 0);
            System.arraycopy(suite.rows[test], 0, variables, 0, 3);
            steps = 0;
            how = ENDED;
            result = 0;
            askings = 0;
            reached = 0;
            int at = 0;
            for (int move = 0; move < MOST_MOVES && code.hasStatement(at); move++) {
                if (code.mark[at] == LEFT_OUT) {
                    at = code.after[at];
                    continue;
                }
                reached |= 1L << at;
                if (steps >= MOST_STEPS) {
                    how = HANGS;
                    at = NONE;
                } else {
                    trace[steps] = at;
                    steps++;
                    at = workOut(at) ? goOn(at, outcome[at + 1]) : NONE;
                }
            }
            return how == ENDED && result == suite.rows[test][Suite.DUE];
        }

        private int goOn(int at, int came) {
            switch (code.kind[at]) {
                case ASSIGN:
                    variables[code.value[at]] = came;
                    return code.after[at];
                case RETURN:
                    result = came;
                    return NONE;
                default:
                    return comesOutSo(at, came) ? code.inner[at] : code.other[at];
            }
        }

        private boolean comesOutSo(int at, int came) {
            boolean so = (came != 0) != (code.mark[at] == DENIED);
            if (at == forcedNode) {
                so = forcedSo;
            }
            if (askings == flippedAsking) {
                so = !so;
            }
            askings++;
            return so;
        }

        /**
         * From the back each node finds its sides worked out. That the right side goes first so is
         * not to be seen: both are worked out always, and a crash is the same wherever it comes.
         */
        private boolean workOut(int statement) {
            for (int n = code.last[statement]; n > statement; n--) {
                int value = code.value[n];
                switch (code.kind[n]) {
                    case NUMBER:
                        outcome[n] = value;
                        break;
                    case VARIABLE:
                        outcome[n] = variables[value];
                        break;
                    case MINUS:
                        outcome[n] = code.mark[n] == LEFT_OUT ? outcome[n + 1] : -outcome[n + 1];
                        break;
                    default:
                        boolean swapped = code.mark[n] == SWAPPED;
                        int left = outcome[swapped ? code.second[n] : n + 1];
                        int right = outcome[swapped ? n + 1 : code.second[n]];
                        if (right == 0 && (value == BY_SIGN || value == REST_SIGN)) {
                            how = CRASHED;
                            return false;
                        }
                        outcome[n] = combined(value, left, right);
                        break;
                }
            }
            return true;
        }

        private static int combined(int sign, int left, int right) {
            switch (sign) {
                case PLUS_SIGN:
                    return left + right;
                case MINUS_SIGN:
                    return left - right;
                case TIMES_SIGN:
                    return left * right;
                case BY_SIGN:
                    return right == 0 ? 0 : left / right;
                case REST_SIGN:
                    return right == 0 ? 0 : left % right;
                case LESS:
                    return left < right ? 1 : 0;
                case AT_MOST:
                    return left <= right ? 1 : 0;
                case EQUAL:
                    return left == right ? 1 : 0;
                case UNEQUAL:
                    return left != right ? 1 : 0;
                case MORE:
                    return left > right ? 1 : 0;
                default:
                    return left >= right ? 1 : 0;
            }
        }
    }

    /** The runs of all tests as the program is now. */
    private static final class Runs {
        private final Code code;
        private final Suite suite;
        private final Machine machine;
        final int[] how = new int[MOST_TESTS];
        final int[] result = new int[MOST_TESTS];
        final int[] steps = new int[MOST_TESTS];
        final int[] askings = new int[MOST_TESTS];
        final boolean[] passing = new boolean[MOST_TESTS];
        final int[][] trace = new int[MOST_TESTS][MOST_STEPS];
        final int[][] times = new int[MOST_TESTS][MOST_NODES];
        int shownPassing;
        int shownFailing;
        int heldPassing;
        /** The statements that all shown tests come to which fail. */
        private long reachedByFailing;

        Runs(Code code, Suite suite, Machine machine) {
            this.code = code;
            this.suite = suite;
            this.machine = machine;
        }

        void learn() {
            shownPassing = 0;
            shownFailing = 0;
            heldPassing = 0;
            reachedByFailing = -1L;
            if (code.size == 0) {
                return;
            }
            for (int t = 0; t < suite.size; t++) {
                learnTest(t);
            }
        }

        private void learnTest(int test) {
            passing[test] = machine.passes(test);
            how[test] = machine.how;
            result[test] = machine.result;
            steps[test] = machine.steps;
            askings[test] = machine.askings;
            Arrays.fill(times[test], 0);
            for (int k = 0; k < machine.steps; k++) {
                trace[test][k] = machine.trace[k];
                times[test][machine.trace[k]]++;
            }
            if (suite.isHeld(test)) {
                heldPassing += passing[test] ? 1 : 0;
            } else if (passing[test]) {
                shownPassing++;
            } else {
                shownFailing++;
                reachedByFailing &= machine.reached;
            }
        }

        int shownThatDo(int statement, boolean pass) {
            int many = 0;
            for (int t = 0; t < suite.size; t++) {
                if (suite.isShown(t) && passing[t] == pass && times[t][statement] > 0) {
                    many++;
                }
            }
            return many;
        }

        /** A run that does not come to the statement stays as it is, whatever is changed there. */
        boolean couldMend(int statement) {
            return (reachedByFailing >> statement & 1L) == 1L;
        }
    }

    /** How suspect the statements are, by each rule. */
    private static final class Ranking {
        private static final int MOST_DIVISIONS = 64;

        private final Code code;
        private final Runs runs;
        /** Shown tests that fail, that pass, and do the statement. */
        final int[] failing = new int[MOST_NODES];
        final int[] passing = new int[MOST_NODES];
        final int[][] above = new int[RULES][MOST_NODES];
        final int[][] below = new int[RULES][MOST_NODES];
        final int[][] order = new int[RULES][MOST_STATEMENTS];

        Ranking(Code code, Runs runs) {
            this.code = code;
            this.runs = runs;
        }

        void learn() {
            for (int i = 0; i < code.statements; i++) {
                int statement = code.statementAt[i];
                failing[statement] = runs.shownThatDo(statement, false);
                passing[statement] = runs.shownThatDo(statement, true);
                learnScores(statement);
            }
            for (int rule = 0; rule < RULES; rule++) {
                learnOrder(rule);
            }
        }

        private void learnScores(int statement) {
            int f = failing[statement];
            int p = passing[statement];
            int allFailing = runs.shownFailing;
            int allPassing = runs.shownPassing;
            if (allPassing == 0) {
                keepScore(0, statement, f, f);
            } else {
                keepScore(0, statement, f * allPassing, f * allPassing + p * allFailing);
            }
            keepScore(1, statement, f * f, allFailing * (f + p));
            int missing = p + allFailing - f;
            keepScore(2, statement, f > 0 && missing == 0 ? FAR_SCORE : f * f, missing == 0 ? 1 : missing);
        }

        private void keepScore(int rule, int statement, int over, int under) {
            int common = over == 0 ? 0 : commonDivisor(over, under);
            above[rule][statement] = common == 0 ? 0 : over / common;
            below[rule][statement] = common == 0 ? 1 : under / common;
        }

        private static int commonDivisor(int one, int other) {
            int greater = one;
            int lesser = other;
            for (int i = 0; i < MOST_DIVISIONS && lesser != 0; i++) {
                int rest = greater % lesser;
                greater = lesser;
                lesser = rest;
            }
            return greater;
        }

        /** Statements come by their nodes, so that one goes ahead only of what scores less. */
        private void learnOrder(int rule) {
            int[] row = order[rule];
            for (int i = 0; i < code.statements; i++) {
                int statement = code.statementAt[i];
                int at = i;
                for (int k = i; k > 0 && scoresMore(rule, statement, row[k - 1]); k--) {
                    row[k] = row[k - 1];
                    at = k - 1;
                }
                row[at] = statement;
            }
        }

        private boolean scoresMore(int rule, int one, int other) {
            int[] over = above[rule];
            int[] under = below[rule];
            return over[one] * under[other] > over[other] * under[one];
        }
    }

    /** The mends as all is now, in their order. */
    private static final class Mends {
        private final Code code;
        private final Suite suite;
        private final Machine machine;
        private final Runs runs;
        private final Ranking ranking;
        final int[] node = new int[MOST_CHANGES];
        final int[] change = new int[MOST_CHANGES];
        final int[] heldPassing = new int[MOST_CHANGES];
        final int[] alike = new int[MOST_CHANGES];
        /** How each test ends with each mend: a row of all tests for each mend. */
        private final long[] ends = new long[MOST_CHANGES * MOST_TESTS];
        int many;
        boolean known;

        Mends(Code code, Suite suite, Machine machine, Runs runs, Ranking ranking) {
            this.code = code;
            this.suite = suite;
            this.machine = machine;
            this.runs = runs;
            this.ranking = ranking;
        }

        void find() {
            if (known) {
                return;
            }
            known = true;
            many = 0;
            if (runs.shownFailing == 0) {
                return;
            }
            for (int rank = 0; rank < code.statements; rank++) {
                int statement = ranking.order[1][rank];
                if (runs.couldMend(statement)) {
                    tryStatement(statement);
                }
            }
        }

        private void tryStatement(int statement) {
            for (int n = statement; n <= code.last[statement]; n++) {
                int value = code.value[n];
                int mark = code.mark[n];
                int changes = code.changeCount(n);
                for (int c = 0; c < changes; c++) {
                    code.apply(n, c);
                    if (machine.allShownPass()) {
                        keep(n, c);
                    }
                    code.restore(n, value, mark);
                }
            }
        }

        /** The change is in the program while it is kept. */
        private void keep(int atNode, int itsChange) {
            if (many >= MOST_CHANGES) {
                return;
            }
            node[many] = atNode;
            change[many] = itsChange;
            heldPassing[many] = 0;
            for (int t = 0; t < suite.size; t++) {
                if (machine.passes(t) && suite.isHeld(t)) {
                    heldPassing[many]++;
                }
                ends[many * MOST_TESTS + t] = (long) machine.how << 32 | machine.result & 0xFFFFFFFFL;
            }
            alike[many] = firstAlike(many);
            many++;
        }

        private int firstAlike(int mend) {
            for (int k = 0; k < mend; k++) {
                if (alike[k] == k && endAlike(k, mend)) {
                    return k;
                }
            }
            return mend;
        }

        private boolean endAlike(int one, int other) {
            for (int t = 0; t < suite.size; t++) {
                if (ends[one * MOST_TESTS + t] != ends[other * MOST_TESTS + t]) {
                    return false;
                }
            }
            return true;
        }

        int kinds() {
            int kinds = 0;
            for (int k = 0; k < many; k++) {
                if (alike[k] == k) {
                    kinds++;
                }
            }
            return kinds;
        }

        int fittest() {
            int fittest = NONE;
            for (int k = 0; k < many; k++) {
                if (fittest == NONE || heldPassing[k] > heldPassing[fittest]) {
                    fittest = k;
                }
            }
            return fittest;
        }
    }

    /** The first pair of changes that mends together what no change mends alone. */
    private static final class Pairs {
        private final Code code;
        private final Suite suite;
        private final Machine machine;
        private final Runs runs;
        private final Ranking ranking;
        /** Of each change by itself: the statements that all tests come to which fail with it. */
        private final long[] reachedByFailing = new long[MOST_CHANGES];
        private final int[] changesBefore = new int[MOST_NODES];
        private long suspects;
        int firstNode;
        int firstChange;
        int otherNode;
        int otherChange;
        int heldPassing;
        boolean found;
        boolean known;

        Pairs(Code code, Suite suite, Machine machine, Runs runs, Ranking ranking) {
            this.code = code;
            this.suite = suite;
            this.machine = machine;
            this.runs = runs;
            this.ranking = ranking;
        }

        void find(int mendCount) {
            if (known) {
                return;
            }
            known = true;
            found = false;
            if (runs.shownFailing == 0 || mendCount > 0) {
                return;
            }
            suspects = 0;
            for (int rank = 0; rank < PAIR_SUSPECTS && rank < code.statements; rank++) {
                suspects |= 1L << ranking.order[1][rank];
            }
            learnWhatFails();
            for (int n = 0; n < code.size && !found; n++) {
                if (isIn(suspects, n)) {
                    tryFirst(n);
                }
            }
        }

        private boolean isIn(long statements, int node) {
            return (statements >> code.owner[node] & 1L) == 1L;
        }

        private void learnWhatFails() {
            int index = 0;
            for (int n = 0; n < code.size; n++) {
                changesBefore[n] = index;
                int changes = isIn(suspects, n) ? code.changeCount(n) : 0;
                int value = code.value[n];
                int mark = code.mark[n];
                for (int c = 0; c < changes && index < MOST_CHANGES; c++) {
                    code.apply(n, c);
                    reachedByFailing[index] = reachedByAllFailing();
                    index++;
                    code.restore(n, value, mark);
                }
            }
        }

        private long reachedByAllFailing() {
            long reached = -1L;
            for (int t = 0; t < suite.size; t++) {
                if (suite.isShown(t) && !machine.passes(t)) {
                    reached &= machine.reached;
                }
            }
            return reached;
        }

        private void tryFirst(int n) {
            int value = code.value[n];
            int mark = code.mark[n];
            int changes = code.changeCount(n);
            for (int c = 0; c < changes && !found; c++) {
                code.apply(n, c);
                tryOthers(n, c, reachedByFailing[changesBefore[n] + c]);
                code.restore(n, value, mark);
            }
        }

        /**
         * A test that fails with one change fails with both as well, if it does not come to the
         * other one: so most pairs need no run.
         */
        private void tryOthers(int first, int itsChange, long reached) {
            for (int n = first + 1; n < code.size && !found; n++) {
                if (!isIn(suspects & reached, n)) {
                    continue;
                }
                int value = code.value[n];
                int mark = code.mark[n];
                int changes = code.changeCount(n);
                for (int c = 0; c < changes && !found; c++) {
                    if (isIn(reachedByFailing[changesBefore[n] + c], first)) {
                        code.apply(n, c);
                        if (machine.allShownPass()) {
                            keep(first, itsChange, n, c);
                            heldPassing = machine.countPassing(true);
                        }
                        code.restore(n, value, mark);
                    }
                }
            }
        }

        private void keep(int first, int itsChange, int second, int secondsChange) {
            found = true;
            firstNode = first;
            firstChange = itsChange;
            otherNode = second;
            otherChange = secondsChange;
        }
    }

    /** What would be with other values of a number, with other outcomes of a condition. */
    private static final class WhatIf {
        private final Code code;
        private final Machine machine;
        private final Runs runs;
        /** The number of which the values are known, or NONE. */
        int valuesNode = NONE;
        int many;
        int least;
        int greatest;
        int nearest;

        WhatIf(Code code, Machine machine, Runs runs) {
            this.code = code;
            this.machine = machine;
            this.runs = runs;
        }

        void tryValues(int node) {
            if (valuesNode == node) {
                return;
            }
            valuesNode = node;
            many = 0;
            if (!runs.couldMend(code.owner[node])) {
                return;
            }
            int now = code.value[node];
            for (int value = LEAST_VALUE; value <= GREATEST_VALUE; value++) {
                code.value[node] = value;
                if (machine.allShownPass()) {
                    keepValue(value, now);
                }
            }
            code.value[node] = now;
        }

        /** Values come from the least on, so an equally near one behind is the greater one. */
        private void keepValue(int value, int now) {
            if (many == 0) {
                least = value;
                nearest = value;
            }
            greatest = value;
            if (Math.abs(value - now) < Math.abs(nearest - now)) {
                nearest = value;
            }
            many++;
        }

        int passingIfForced(int node, boolean so) {
            machine.forcedNode = node;
            machine.forcedSo = so;
            int passing = machine.countPassing(false);
            machine.forcedNode = NONE;
            return passing;
        }

        int mendingAsking(int test) {
            int mending = NONE_FOUND;
            for (int asking = 0; asking < runs.askings[test] && mending == NONE_FOUND; asking++) {
                machine.flippedAsking = asking;
                if (machine.passes(test)) {
                    mending = asking;
                }
            }
            machine.flippedAsking = NONE;
            return mending;
        }
    }
}
