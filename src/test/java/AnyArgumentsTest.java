import java.util.NoSuchElementException;
import java.util.Random;

/** Calls with any arguments in any state: nothing is thrown but what the document says, and all is told again alike. */
public final class AnyArgumentsTest {
    private static final Check CHECK = new Check();
    private static final int[] EDGES = {Integer.MIN_VALUE, Integer.MAX_VALUE, -201, -2, -1, 59, 60, 61, 16, 20, 300, 600, 601};
    private static final String[] TEXTS = {
        "x = 1;", "return x / y;", "while x { x = x - 1; if y { return z; } else { y = -y; } } return a;",
        "a = -(x % 3); if a == 2 { b = 999; } return b - a;", "x=" + "1+".repeat(29) + "1;", "x = 1", "#", "if x {"};
    private static final String[] SUITES = {
        "test 1 2 3 gives 4", "test 0 0 0 gives 0;test 1 1 1 gives 1 held", "test 5 -1 2 gives -2 held",
        "test 1 2 3", "test 3 0 0 gives 0;".repeat(15) + "test 9 9 9 gives 999"};

    public static void main(String[] args) {
        for (int seed = 0; seed < 300; seed++) {
            long first = calls(seed);
            CHECK.due("the same calls again, seed " + seed, calls(seed), first);
        }
        CHECK.end();
    }

    private static long calls(int seed) {
        Random random = new Random(seed);
        ProgramMender m = new ProgramMender();
        long sum = 0;
        for (int i = 0; i < 512; i++) {
            int what = random.nextInt(26);
            int answer;
            try {
                answer = call(m, what, random);
            } catch (NoSuchElementException thrown) {
                CHECK.due("only node and test throw", what == 3 || what == 4 ? 1 : 0, 1);
                answer = 12345;
            }
            sum = 31 * sum + answer;
        }
        return sum;
    }

    private static int any(Random random) {
        return random.nextInt(4) == 0 ? EDGES[random.nextInt(EDGES.length)] : random.nextInt(14) - 1;
    }

    private static int call(ProgramMender m, int which, Random random) {
        int a = any(random);
        int b = any(random);
        int c = any(random);
        switch (which) {
            case 0: return m.feed(a, b, c, random.nextInt(), 0x20202020);
            case 1: return m.program(a);
            case 2: return m.tests(a);
            case 3: return m.node(a, b);
            case 4: return m.test(a, b);
            case 5: return m.run(a, b);
            case 6: return m.done(a, b);
            case 7: return m.trace(a, b);
            case 8: return m.spectrum(a, b);
            case 9: return m.score(a, b, c);
            case 10: return m.suspect(a, b);
            case 11: return m.changes(a);
            case 12: return m.change(a, b, c);
            case 13: return m.mend(a, b);
            case 14: return m.unlike();
            case 15: return m.best();
            case 16: return m.pair(a);
            case 17: return m.values(a, b);
            case 18: return m.forced(a, random.nextBoolean());
            case 19: return m.flip(a);
            case 20: return m.take(a, b);
            case 21: return m.undo();
            case 22: return m.count(a);
            case 23: return Check.program(m, TEXTS[random.nextInt(TEXTS.length)]);
            case 24: return Check.tests(m, SUITES[random.nextInt(SUITES.length)]);
            default: return m.take(random.nextInt(12), random.nextInt(3));
        }
    }
}
