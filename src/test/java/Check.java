import java.util.NoSuchElementException;

/** Compares answers with what is due, and tells texts to a mender. */
final class Check {
    private int wrong;
    private int looked;
    private int sentences;
    private String sentence = "";
    private int lookedBefore;

    /** The sentence of the document that the answers from here on belong to; one that has none is a fault. */
    void sentence(String words) {
        closeSentence();
        sentences++;
        sentence = words;
        lookedBefore = looked;
    }

    void due(String call, long got, long want) {
        looked++;
        if (got != want) {
            say(call + " answered " + got + ", due is " + want);
        }
    }

    private void say(String what) {
        wrong++;
        System.out.println((sentence.isEmpty() ? "" : "\"" + sentence + "\": ") + what);
    }

    private void closeSentence() {
        if (!sentence.isEmpty() && looked == lookedBefore) {
            say("nothing is looked at");
        }
    }

    /** Answers of one call for whats 0, 1, 2 and so on. */
    void dueRow(String call, int[] got, int... want) {
        due(call + " length", got.length, want.length);
        for (int i = 0; i < got.length && i < want.length; i++) {
            due(call + " [" + i + "]", got[i], want[i]);
        }
    }

    /** What the changes of a node make: all of them, and no more. */
    void dueChanges(ProgramMender m, int node, int... want) {
        due("changes(" + node + ")", m.changes(node), want.length);
        for (int c = 0; c < want.length; c++) {
            due("change(" + node + ", " + c + ", 3)", m.change(node, c, 3), want[c]);
        }
        due("one change more", m.change(node, want.length, 3), -200);
        due("one less than 0", m.change(node, -1, 3), -200);
    }

    void dueSpectrum(ProgramMender m, int node, int... want) {
        for (int what = 0; what < 4; what++) {
            due("spectrum(" + node + ", " + what + ")", m.spectrum(node, what), want[what]);
        }
    }

    void dueScore(ProgramMender m, int rule, int node, int above, int below) {
        due("score(" + rule + ", " + node + ", 0)", m.score(rule, node, 0), above);
        due("score(" + rule + ", " + node + ", 1)", m.score(rule, node, 1), below);
    }

    void dueNoNode(ProgramMender m, int node, int what) {
        looked++;
        try {
            int got = m.node(node, what);
            say("node(" + node + ", " + what + ") answered " + got + ", due is an exception");
        } catch (NoSuchElementException asDue) {
            looked++;
        }
    }

    void dueNoTest(ProgramMender m, int test, int what) {
        looked++;
        try {
            int got = m.test(test, what);
            say("test(" + test + ", " + what + ") answered " + got + ", due is an exception");
        } catch (NoSuchElementException asDue) {
            looked++;
        }
    }

    /** The last line of a test's main. */
    void end() {
        closeSentence();
        String of = sentences == 0 ? "" : " of " + sentences + " sentences";
        System.out.println(wrong == 0 ? looked + " answers" + of + " are as due" : wrong + " answers are not as due");
        if (wrong != 0) {
            System.exit(1);
        }
    }

    /** Puts a text on the tape, with blanks behind it up to a multiple of twenty: its own length. */
    static int feed(ProgramMender m, String text) {
        for (int from = 0; from < text.length(); from += 20) {
            int[] numbers = new int[5];
            for (int i = 0; i < 20; i++) {
                int sign = from + i < text.length() ? text.charAt(from + i) : ' ';
                numbers[i / 4] = numbers[i / 4] << 8 | sign & 255;
            }
            m.feed(numbers[0], numbers[1], numbers[2], numbers[3], numbers[4]);
        }
        return text.length();
    }

    static int program(ProgramMender m, String text) {
        return m.program(feed(m, text));
    }

    static int tests(ProgramMender m, String text) {
        return m.tests(feed(m, text));
    }

    static ProgramMender told(String program, String tests) {
        ProgramMender m = new ProgramMender();
        if (program(m, program) < 0 || tests(m, tests) < 0) {
            throw new IllegalArgumentException("refused: " + program + " / " + tests);
        }
        return m;
    }

    /** What a program returns. */
    static int value(String program, String inputs) {
        return told(program, "test " + inputs + " gives 0").run(0, 1);
    }

    /** What a fault of this kind at this place is answered with. */
    static int fault(int place, int kind) {
        return -2 - (8 * place + kind);
    }

    static int[] node(ProgramMender m, int node) {
        int[] row = new int[5];
        for (int what = 0; what < 5; what++) {
            row[what] = m.node(node, what);
        }
        return row;
    }

    static int[] mend(ProgramMender m, int k) {
        int[] row = new int[5];
        for (int what = 0; what < 5; what++) {
            row[what] = m.mend(k, what);
        }
        return row;
    }

    static int[] run(ProgramMender m, int test) {
        int[] row = new int[4];
        for (int what = 0; what < 4; what++) {
            row[what] = m.run(test, what);
        }
        return row;
    }

    static int[] pair(ProgramMender m) {
        int[] row = new int[5];
        for (int what = 0; what < 5; what++) {
            row[what] = m.pair(what);
        }
        return row;
    }

    static int[] values(ProgramMender m, int node) {
        int[] row = new int[4];
        for (int what = 0; what < 4; what++) {
            row[what] = m.values(node, what);
        }
        return row;
    }
}
