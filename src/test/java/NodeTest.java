/** Promises 5 and 6: what is told of a node and of a test. */
public final class NodeTest {
    private static final Check CHECK = new Check();

    public static void main(String[] args) {
        order();
        blocks();
        signs();
        marks();
        refused();
        CHECK.end();
    }

    private static void order() {
        ProgramMender m = Check.told("e = x + y * -(a - 7) - f;", "test 0 0 0 gives 0");
        CHECK.due("nodes", m.count(0), 11);
        row(m, 0, 0, 7, -1, 0, 0);
        row(m, 1, 7, 1, 0, 0, 0);
        row(m, 2, 7, 0, 1, 0, 0);
        row(m, 3, 5, 0, 2, 0, 0);
        row(m, 4, 7, 2, 2, 0, 0);
        row(m, 5, 5, 1, 4, 0, 0);
        row(m, 6, 6, -100, 4, 0, 0);
        row(m, 7, 7, 1, 6, 0, 0);
        row(m, 8, 5, 3, 7, 0, 0);
        row(m, 9, 4, 7, 7, 0, 0);
        row(m, 10, 5, 8, 1, 0, 0);
    }

    private static void blocks() {
        ProgramMender m = Check.told("while x < 3 { if y { x = 1; } else { return 2; } z = 4; } return b;",
                "test 0 0 0 gives 0");
        CHECK.due("nodes", m.count(0), 14);
        CHECK.due("statements", m.count(1), 6);
        row(m, 0, 2, -100, -1, 0, 0);
        row(m, 1, 7, 5, 0, 0, 0);
        row(m, 4, 1, -100, 0, 4, 0);
        row(m, 5, 5, 1, 4, 4, 0);
        row(m, 6, 0, 0, 4, 6, 0);
        row(m, 7, 4, 1, 6, 6, 0);
        row(m, 8, 3, -100, 4, 8, 0);
        row(m, 9, 4, 2, 8, 8, 0);
        row(m, 10, 0, 2, 0, 10, 0);
        row(m, 12, 3, -100, -1, 12, 0);
        row(m, 13, 5, 4, 12, 12, 0);
    }

    private static void signs() {
        String[] signs = {"+", "-", "*", "/", "%", "<", "<=", "==", "!=", ">", ">="};
        for (int sign = 0; sign < signs.length; sign++) {
            ProgramMender m = Check.told("return x" + signs[sign] + "y;", "test 0 0 0 gives 0");
            CHECK.due("sign " + signs[sign], m.node(1, 1), sign);
        }
        String[] variables = {"x", "y", "z", "a", "b", "c", "d", "e", "f"};
        for (int v = 0; v < variables.length; v++) {
            ProgramMender m = Check.told(variables[v] + "=1;", "test 0 0 0 gives 0");
            CHECK.due("variable " + variables[v], m.node(0, 1), v);
        }
        ProgramMender m = Check.told("return (x < y) < (z + 1) * 2;", "test 0 0 0 gives 0");
        CHECK.due("a compare of a compare", m.node(1, 1), 5);
        CHECK.due("its left side", m.node(2, 1), 5);
        CHECK.due("its right side", m.node(5, 1), 2);
        CHECK.due("in brackets", m.node(6, 1), 0);
        ProgramMender left = Check.told("return x / y * z % 2;", "test 0 0 0 gives 0");
        CHECK.due("the last sign stands ahead", left.node(1, 1), 4);
        CHECK.due("the middle one", left.node(2, 1), 2);
        CHECK.due("the first one", left.node(3, 1), 3);
    }

    private static void marks() {
        ProgramMender m = Check.told("if x { y = -3; while y { y = y - 1; } } return y;", "test 0 0 0 gives 0");
        m.take(3, 0);
        CHECK.due("a minus left out", m.node(3, 4), 1);
        CHECK.due("it is a minus all the same", m.node(3, 0), 6);
        CHECK.due("the number behind it", m.node(4, 4), 0);
        m.take(5, 0);
        CHECK.due("denied", m.node(5, 4), 2);
        CHECK.due("the condition itself", m.node(6, 4), 0);
        m.take(8, 4);
        CHECK.due("sides changed places", m.node(8, 4), 3);
        CHECK.due("the sign stays", m.node(8, 1), 1);
        CHECK.due("the left side's number stays", m.node(9, 0), 5);
        m.take(0, 1);
        for (int n = 0; n <= 10; n++) {
            CHECK.due("left out with all in it " + n, m.node(n, 4), 1);
        }
        CHECK.due("what is behind the block", m.node(11, 4), 0);
        m.undo();
        CHECK.due("denied again", m.node(5, 4), 2);
        CHECK.due("changed places again", m.node(8, 4), 3);
        CHECK.due("the statement again", m.node(0, 4), 0);
    }

    private static void refused() {
        ProgramMender m = Check.told("return x;", "test 1 2 3 gives 4 held");
        CHECK.dueNoNode(m, -1, 0);
        CHECK.dueNoNode(m, 2, 0);
        CHECK.dueNoNode(m, 0, -1);
        CHECK.dueNoNode(m, 0, 5);
        CHECK.dueNoNode(m, Integer.MIN_VALUE, Integer.MAX_VALUE);
        CHECK.due("z", m.test(0, 2), 3);
        CHECK.due("held", m.test(0, 4), 1);
        CHECK.dueNoTest(m, -1, 0);
        CHECK.dueNoTest(m, 1, 0);
        CHECK.dueNoTest(m, 0, -1);
        CHECK.dueNoTest(m, 0, 5);
        CHECK.dueNoTest(m, Integer.MAX_VALUE, 0);
    }

    private static void row(ProgramMender m, int node, int... want) {
        CHECK.dueRow("node " + node, Check.node(m, node), want);
    }
}
