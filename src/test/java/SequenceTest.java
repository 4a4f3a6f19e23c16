import java.util.NoSuchElementException;
import java.util.Random;

/**
 * Calls as they come, programs, tests and changes coming and going between them: each answer is the
 * one that the plain mender gives, which keeps nothing from one call to the next.
 */
public final class SequenceTest {
    private static final Check CHECK = new Check();
    private static final int[] EDGES = {Integer.MIN_VALUE, Integer.MAX_VALUE, -2, -1, 3, 4, 5, 9, 10, 15, 16, 19, 20, 299, 300};
    private static final String[] PROGRAMS = {
        "return x + 3;",
        "a = 4; if x { a = a + 1; } return a;",
        "while x > 0 { x = x - 1; if x == y { a = a + 10; } } return a;",
        "if x < 3 { return -y; } else { b = y % x; } return b - 2;",
        "a = 7; b = 7; return a * 10 + b;",
        "a = 2; if x { while a == 3 { } return 0 / (a - 1); } return a == 2;",
        "a = 0; while x { x = x - 1; } return 7;",
        "return 5;", "x = 1;", "x = 1", "if x { y = 2; ", "return 1234;", "return ((x)) - -1;"};
    private static final String[] SUITES = {
        "test 2 0 0 gives 6;test 5 0 0 gives 15 held",
        "test 1 0 0 gives 6;test 0 0 0 gives 4;test 9 0 0 gives 6 held",
        "test 3 9 0 gives 10;test 3 9 0 gives 20;test 3 1 0 gives 0;test 2 0 0 gives 0 held",
        "test 0 0 0 gives 0", "test 149 0 0 gives 0;test 1 0 0 gives 7 held", "test 0 0 0 gives 88;test 0 0 0 gives 88 held",
        "test 4 2 0 gives -2 held", "test 1 2 3 gives", "test -1 -2 -3 gives -4;", "test 5 2 0 gives 3;test 2 7 0 gives 7"};

    private final Random random;
    private final ProgramMender mender = new ProgramMender();
    private final PlainFace plain = new PlainFace();

    private SequenceTest(int seed) {
        random = new Random(seed);
    }

    public static void main(String[] args) {
        int rounds = args.length > 1 ? Integer.parseInt(args[1]) : 400;
        for (int seed = 0; seed < rounds; seed++) {
            new SequenceTest(seed).calls("seed " + seed);
        }
        CHECK.end();
    }

    /** Feeds are calls as well: some 500 of all. */
    private void calls(String name) {
        for (int i = 0; i < 220; i++) {
            int kind = random.nextInt(24);
            if (kind == 0) {
                tell(PROGRAMS, true, name + " call " + i);
            } else if (kind == 1) {
                tell(SUITES, false, name + " call " + i);
            } else {
                ask(2 + random.nextInt(22), name + " call " + i);
            }
        }
    }

    private void tell(String[] texts, boolean program, String name) {
        String text = texts[random.nextInt(texts.length)];
        for (int from = 0; from < text.length(); from += 20) {
            int[] row = new int[5];
            for (int i = 0; i < 20; i++) {
                row[i / 4] = row[i / 4] << 8 | (from + i < text.length() ? text.charAt(from + i) : ' ');
            }
            CHECK.due(name + " feed", mender.feed(row[0], row[1], row[2], row[3], row[4]), plain.feed(row));
        }
        int n = random.nextInt(5) == 0 ? any() : text.length();
        String call = name + (program ? " program " : " tests ") + text;
        CHECK.due(call, program ? mender.program(n) : mender.tests(n), program ? plain.program(n) : plain.tests(n));
    }

    private int any() {
        return random.nextInt(5) == 0 ? EDGES[random.nextInt(EDGES.length)] : random.nextInt(12);
    }

    private void ask(int which, String name) {
        int a = any();
        int b = any();
        int c = random.nextInt(6) == 0 ? any() : random.nextInt(5);
        int due = plainly(which, a, b, c);
        int got;
        try {
            got = really(which, a, b, c);
        } catch (NoSuchElementException thrown) {
            got = PlainFace.THROWS;
        }
        CHECK.due(name + ": " + which + " of " + a + ", " + b + ", " + c, got, due);
    }

    private int really(int which, int a, int b, int c) {
        switch (which) {
            case 2: return mender.node(a, c);
            case 3: return mender.test(c, a);
            case 4: return mender.run(c, b % 5);
            case 5: return mender.done(c, a);
            case 6: return mender.trace(c, a);
            case 7: return mender.spectrum(a, c);
            case 8: return mender.score(c, a, b % 3);
            case 9: return mender.suspect(c, a);
            case 10: return mender.changes(a);
            case 11: return mender.change(a, c, b % 5);
            case 12: return mender.mend(a, c);
            case 13: return mender.mend(-1, c);
            case 14: return mender.unlike();
            case 15: return mender.best();
            case 16: return mender.pair(c);
            case 17: return mender.values(a, c);
            case 18: return mender.forced(a, b % 2 == 0);
            case 19: return mender.flip(c);
            case 20: return mender.take(a, c);
            case 21: return mender.undo();
            case 22: return mender.run(0, c);
            default: return mender.count(a);
        }
    }

    private int plainly(int which, int a, int b, int c) {
        switch (which) {
            case 2: return plain.node(a, c);
            case 3: return plain.test(c, a);
            case 4: return plain.run(c, b % 5);
            case 5: return plain.done(c, a);
            case 6: return plain.trace(c, a);
            case 7: return plain.spectrum(a, c);
            case 8: return plain.score(c, a, b % 3);
            case 9: return plain.suspect(c, a);
            case 10: return plain.changes(a);
            case 11: return plain.change(a, c, b % 5);
            case 12: return plain.mend(a, c);
            case 13: return plain.mend(-1, c);
            case 14: return plain.unlike();
            case 15: return plain.best();
            case 16: return plain.pair(c);
            case 17: return plain.values(a, c);
            case 18: return plain.forced(a, b % 2 == 0);
            case 19: return plain.flip(c);
            case 20: return plain.take(a, c);
            case 21: return plain.undo();
            case 22: return plain.run(0, c);
            default: return plain.count(a);
        }
    }
}
