/** Promises 10 to 12: spectrum, scores, ranks. */
public final class SuspectTest {
    private static final Check CHECK = new Check();
    /** Nodes 0 if, 4 assign, 6 if, 10 assign, 12 return. */
    private static final String TEXT = "if x > 0 { a = 1; } if y > 0 { a = 5; } return a;";

    public static void main(String[] args) {
        spectrum();
        scores();
        noneFails();
        allFail();
        nothingBelow();
        ranks();
        leftOut();
        refused();
        CHECK.end();
    }

    private static ProgramMender sample() {
        return Check.told(TEXT, "test 1 0 0 gives 1;test 0 1 0 gives 2;test 1 1 0 gives 2;test 0 0 0 gives 0;"
                + "test 1 0 0 gives 1;test 0 0 0 gives 9 held;test 1 0 0 gives 1 held");
    }

    private static void spectrum() {
        ProgramMender m = sample();
        CHECK.dueSpectrum(m, 0, 2, 3, 0, 0);
        CHECK.dueSpectrum(m, 4, 1, 2, 1, 1);
        CHECK.dueSpectrum(m, 6, 2, 3, 0, 0);
        CHECK.dueSpectrum(m, 10, 2, 0, 0, 3);
        CHECK.dueSpectrum(m, 12, 2, 3, 0, 0);
        CHECK.due("shown that pass", m.count(4), 3);
        CHECK.due("held that pass", m.count(5), 1);
    }

    private static void scores() {
        ProgramMender m = sample();
        CHECK.dueScore(m, 0, 0, 1, 2);
        CHECK.dueScore(m, 0, 4, 3, 7);
        CHECK.dueScore(m, 0, 10, 1, 1);
        CHECK.dueScore(m, 1, 0, 2, 5);
        CHECK.dueScore(m, 1, 4, 1, 6);
        CHECK.dueScore(m, 1, 10, 1, 1);
        CHECK.dueScore(m, 2, 0, 4, 3);
        CHECK.dueScore(m, 2, 4, 1, 3);
        CHECK.dueScore(m, 2, 10, 1000, 1);
    }

    private static void noneFails() {
        ProgramMender m = Check.told(TEXT, "test 1 0 0 gives 1;test 0 0 0 gives 3 held");
        for (int rule = 0; rule < 3; rule++) {
            CHECK.dueScore(m, rule, 0, 0, 1);
            CHECK.dueScore(m, rule, 10, 0, 1);
            CHECK.due("by nodes", m.suspect(rule, 1), 4);
        }
        ProgramMender none = new ProgramMender();
        Check.program(none, TEXT);
        CHECK.dueScore(none, 2, 4, 0, 1);
        CHECK.dueSpectrum(none, 4, 0, 0, 0, 0);
        CHECK.due("without tests", none.suspect(1, 4), 12);
    }

    private static void allFail() {
        ProgramMender m = Check.told(TEXT, "test 1 0 0 gives 7;test 1 1 0 gives 7;test 0 1 0 gives 7");
        CHECK.dueScore(m, 0, 0, 1, 1);
        CHECK.dueScore(m, 0, 4, 1, 1);
        CHECK.dueScore(m, 1, 4, 2, 3);
        CHECK.dueScore(m, 2, 4, 4, 1);
        CHECK.dueScore(m, 2, 0, 1000, 1);
        ProgramMender notDone = Check.told(TEXT, "test 1 0 0 gives 7");
        CHECK.dueScore(notDone, 0, 10, 0, 1);
        CHECK.dueScore(notDone, 1, 10, 0, 1);
        CHECK.dueScore(notDone, 2, 10, 0, 1);
        CHECK.dueScore(notDone, 2, 4, 1000, 1);
    }

    private static void nothingBelow() {
        ProgramMender m = Check.told("if x { } else { a = 2; } return a;", "test 0 0 0 gives 1;test 1 0 0 gives 0");
        CHECK.dueScore(m, 2, 2, 1000, 1);
        CHECK.dueScore(m, 2, 0, 1, 1);
        CHECK.due("1000 stands ahead", m.suspect(2, 0), 2);
    }

    private static void ranks() {
        ProgramMender m = sample();
        for (int rule = 0; rule < 3; rule++) {
            int[] due = {10, 0, 6, 12, 4};
            for (int k = 0; k < due.length; k++) {
                CHECK.due("suspect(" + rule + ", " + k + ")", m.suspect(rule, k), due[k]);
            }
        }
    }

    private static void leftOut() {
        ProgramMender m = sample();
        m.take(10, 0);
        CHECK.dueSpectrum(m, 10, 0, 0, 2, 3);
        CHECK.dueScore(m, 1, 10, 0, 1);
        CHECK.due("it is ranked last", m.suspect(1, 4), 10);
        m.undo();
        CHECK.due("it is ranked first again", m.suspect(1, 0), 10);
    }

    private static void refused() {
        ProgramMender m = sample();
        CHECK.due("spectrum of no statement", m.spectrum(1, 0), -1);
        CHECK.due("spectrum of none", m.spectrum(14, 0), -1);
        CHECK.due("spectrum below", m.spectrum(-1, 0), -1);
        CHECK.due("spectrum what", m.spectrum(0, 4), -1);
        CHECK.due("spectrum what below", m.spectrum(0, -1), -1);
        CHECK.due("score rule", m.score(3, 0, 0), -1);
        CHECK.due("score rule below", m.score(-1, 0, 0), -1);
        CHECK.due("score of no statement", m.score(0, 2, 0), -1);
        CHECK.due("score what", m.score(0, 0, 2), -1);
        CHECK.due("score what below", m.score(0, 0, -1), -1);
        CHECK.due("suspect rule", m.suspect(3, 0), -1);
        CHECK.due("suspect k", m.suspect(0, 5), -1);
        CHECK.due("suspect k below", m.suspect(0, -1), -1);
    }
}
