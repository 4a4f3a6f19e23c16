/** The dearest programs: all that can be asked of them is answered, and soon. */
public final class DearTest {
    private static final Check CHECK = new Check();

    public static void main(String[] args) {
        hangs();
        wide();
        full();
        CHECK.end();
    }

    private static String suite(String due) {
        StringBuilder text = new StringBuilder();
        for (int t = 0; t < 16; t++) {
            text.append(t == 0 ? "" : ";").append("test ").append(t).append(" 1 2 gives ").append(due);
        }
        return text.toString();
    }

    private static void ask(ProgramMender m) {
        m.mend(-1, 0);
        m.pair(0);
        m.unlike();
        for (int n = 0; n < m.count(0); n++) {
            m.values(n, 0);
            m.forced(n, true);
        }
        for (int t = 0; t < 16; t++) {
            m.flip(t);
        }
    }

    private static void hangs() {
        String loop = "while 1 { a = x + y * z + b - c + d * e - f + x + y - z + a + b * c + d + e; f = f + x * y + z - a; "
                + "b = a * x + y - z; c = c + 1; }";
        ProgramMender m = Check.told(loop, suite("977"));
        CHECK.due("it hangs", m.run(3, 0), 2);
        ask(m);
        CHECK.due("no pair", m.pair(0), -2);
        CHECK.due("no mend", m.mend(-1, 0), 0);
    }

    private static void wide() {
        ProgramMender m = Check.told("a = b + c - d * e; return a + b + c + d + e + f + x + y + z + a - b - c - d - e - f - x - y - z * x;",
                suite("-977"));
        ask(m);
        CHECK.due("no mend", m.mend(-1, 0), 0);
    }

    /** Many mends: as many as there are changes that say they are one. */
    private static void full() {
        ProgramMender m = Check.told("a = b; c = d; e = f; x = y; return 1 + a + b + c + d + e + f + a + b + c + d + e + f + a + b + c + d;",
                "test 0 0 0 gives 0");
        int mends = 0;
        for (int n = 0; n < m.count(0); n++) {
            for (int c = 0; c < m.changes(n); c++) {
                mends += m.change(n, c, 2);
            }
        }
        CHECK.due("mends", m.mend(-1, 0), mends);
        CHECK.due("many of them", mends > 10 ? 1 : 0, 1);
        ask(m);
    }
}
