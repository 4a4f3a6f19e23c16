import java.util.ArrayList;
import java.util.Arrays;
import java.util.Collections;
import java.util.List;
import java.util.TreeSet;
import java.util.regex.Matcher;
import java.util.regex.Pattern;

/**
 * The document once more, in the plainest way: a tree of objects, walked anew for every answer, all
 * changes and pairs tried by all tests. It is slow, and shares no thought with the class it checks.
 */
final class PlainMender {
    static final class Node {
        int kind;
        int value = -100;
        Node parent;
        Node statement;
        final List<Node> sides = new ArrayList<>();
        final List<Node> block = new ArrayList<>();
        final List<Node> otherwise = new ArrayList<>();
        boolean out;
        boolean denied;
        boolean swapped;
    }

    static final class Fault extends RuntimeException {
        private static final long serialVersionUID = 1L;
        final int answer;

        Fault(int place, int kind) {
            super("fault", null, false, false);
            answer = -2 - (8 * place + kind);
        }
    }

    /** Ends a run: how, and with what. */
    static final class End extends RuntimeException {
        private static final long serialVersionUID = 1L;
        final int how;
        final int result;

        End(int how, int result) {
            super("end", null, false, false);
            this.how = how;
            this.result = result;
        }
    }

    static final class Outcome {
        int how;
        int result;
        List<Node> steps = new ArrayList<>();
        int askings;

        boolean endsAs(Outcome o) {
            return how == o.how && result == o.result;
        }
    }

    private static final List<String> SIGNS = List.of("+", "-", "*", "/", "%", "<", "<=", "==", "!=", ">", ">=");
    private static final String NAMES = "xyzabcdef";
    private static final Pattern TOKEN = Pattern.compile("[a-z]+|[0-9]+|[<>=!]=|[<>=+\\-*/%(){};]");

    List<Node> nodes = new ArrayList<>();
    List<Node> top = new ArrayList<>();
    List<int[]> tests = new ArrayList<>();
    TreeSet<Integer> variables = new TreeSet<>();
    final List<Runnable> taken = new ArrayList<>();

    // ---- texts

    private List<String> words;
    private List<Integer> places;
    private int at;
    private int statementCount;
    private List<Node> newNodes;

    /** A token that is none is told as "?". */
    private void cut(String text) {
        words = new ArrayList<>();
        places = new ArrayList<>();
        at = 0;
        int i = 0;
        Matcher matcher = TOKEN.matcher(text);
        while (i < text.length()) {
            char c = text.charAt(i);
            if (c == ' ' || c == '\n') {
                i++;
                continue;
            }
            places.add(i);
            matcher.region(i, text.length());
            if (!matcher.lookingAt() || matcher.group().matches("[0-9]{4,}")) {
                words.add("?");
                break;
            }
            words.add(matcher.group());
            i = matcher.end();
        }
        words.add("");
        places.add(text.length());
    }

    private String word() {
        return words.get(at);
    }

    private Fault fault(int kind) {
        return new Fault(places.get(at), kind);
    }

    private void eat(String word) {
        if (!word().equals(word)) {
            throw fault(1);
        }
        at++;
    }

    int program(String text) {
        try {
            cut(text);
            statementCount = 0;
            List<Node> list = new ArrayList<>();
            do {
                list.add(statement(null, 0));
            } while (!word().isEmpty());
            newNodes = new ArrayList<>();
            list.forEach(this::number);
            if (newNodes.size() > 60) {
                throw new Fault(0, 2);
            }
            top = list;
            nodes = newNodes;
            taken.clear();
            variables = new TreeSet<>();
            nodes.stream().filter(n -> n.kind == 0 || n.kind == 5).forEach(n -> variables.add(n.value));
            return nodes.size();
        } catch (Fault f) {
            return f.answer;
        }
    }

    private void number(Node node) {
        newNodes.add(node);
        node.sides.forEach(this::number);
        node.block.forEach(this::number);
        node.otherwise.forEach(this::number);
    }

    private static boolean isVariable(String word) {
        return word.length() == 1 && NAMES.contains(word);
    }

    private Node statement(Node parent, int blocks) {
        int kind = isVariable(word()) ? 0 : List.of("if", "while", "return").indexOf(word()) + 1;
        if (kind == 0 && !isVariable(word())) {
            throw fault(1);
        }
        statementCount++;
        if (statementCount > 20) {
            throw fault(2);
        }
        Node node = new Node();
        node.kind = kind;
        node.parent = parent;
        node.statement = node;
        if (kind == 0) {
            node.value = NAMES.indexOf(word());
        }
        at++;
        if (kind == 0) {
            eat("=");
        }
        adopt(node, whole(0));
        own(node.sides.get(0), node);
        if (kind == 0 || kind == 3) {
            eat(";");
        } else {
            block(node, node.block, blocks);
            if (kind == 1 && word().equals("else")) {
                at++;
                block(node, node.otherwise, blocks);
            }
        }
        return node;
    }

    private void block(Node parent, List<Node> into, int blocks) {
        if (word().equals("{") && blocks == 4) {
            throw fault(2);
        }
        eat("{");
        while (!word().equals("}")) {
            into.add(statement(parent, blocks + 1));
        }
        at++;
    }

    private static void adopt(Node parent, Node side) {
        parent.sides.add(side);
        side.parent = parent;
    }

    private static void own(Node node, Node statement) {
        node.statement = statement;
        node.sides.forEach(n -> own(n, statement));
    }

    private Node join(Node left, int around, int lowest) {
        Node node = new Node();
        node.kind = 7;
        node.value = SIGNS.indexOf(word());
        at++;
        adopt(node, left);
        adopt(node, lowest == 5 ? sum(around) : lowest == 0 ? term(around) : part(around));
        return node;
    }

    private Node whole(int around) {
        Node left = sum(around);
        return SIGNS.indexOf(word()) >= 5 ? join(left, around, 5) : left;
    }

    private Node sum(int around) {
        Node left = term(around);
        while (word().equals("+") || word().equals("-")) {
            left = join(left, around, 0);
        }
        return left;
    }

    private Node term(int around) {
        Node left = part(around);
        while (word().equals("*") || word().equals("/") || word().equals("%")) {
            left = join(left, around, 2);
        }
        return left;
    }

    private Node part(int around) {
        if (around == 8 && (word().equals("(") || word().equals("-"))) {
            throw fault(2);
        }
        Node node = new Node();
        if (word().equals("(")) {
            at++;
            Node inside = whole(around + 1);
            eat(")");
            return inside;
        }
        if (word().equals("-")) {
            at++;
            node.kind = 6;
            adopt(node, part(around + 1));
            return node;
        }
        if (word().matches("[0-9]+")) {
            node.kind = 4;
            node.value = Integer.parseInt(word());
        } else if (isVariable(word())) {
            node.kind = 5;
            node.value = NAMES.indexOf(word());
        } else {
            throw fault(1);
        }
        at++;
        return node;
    }

    int tests(String text) {
        try {
            cut(text);
            List<int[]> list = new ArrayList<>();
            while (true) {
                if (list.size() == 16 && word().equals("test")) {
                    throw fault(2);
                }
                eat("test");
                int[] row = new int[5];
                for (int i = 0; i < 4; i++) {
                    if (i == 3) {
                        eat("gives");
                    }
                    boolean minus = word().equals("-");
                    at += minus ? 1 : 0;
                    if (!word().matches("[0-9]+")) {
                        throw fault(1);
                    }
                    row[i] = Integer.parseInt(word()) * (minus ? -1 : 1);
                    at++;
                }
                if (word().equals("held")) {
                    row[4] = 1;
                    at++;
                }
                list.add(row);
                if (word().isEmpty()) {
                    break;
                }
                eat(";");
            }
            tests = list;
            return list.size();
        } catch (Fault f) {
            return f.answer;
        }
    }

    // ---- runs

    private int[] memory;
    private Outcome now;
    private Node forcedNode;
    private boolean forcedSo;
    private int flipped = -1;

    Outcome run(int[] test) {
        memory = new int[9];
        System.arraycopy(test, 0, memory, 0, 3);
        now = new Outcome();
        try {
            go(top);
        } catch (End end) {
            now.how = end.how;
            now.result = end.result;
        }
        return now;
    }

    private void go(List<Node> list) {
        for (Node s : list) {
            if (s.out) {
                continue;
            }
            if (s.kind == 0) {
                memory[s.value] = asked(s);
            } else if (s.kind == 1) {
                go(comesOut(s) ? s.block : s.otherwise);
            } else if (s.kind == 2) {
                while (comesOut(s)) {
                    go(s.block);
                }
            } else {
                throw new End(0, asked(s));
            }
        }
    }

    private int asked(Node s) {
        if (now.steps.size() == 300) {
            throw new End(2, 0);
        }
        now.steps.add(s);
        return value(s.sides.get(0));
    }

    private boolean comesOut(Node s) {
        boolean so = asked(s) != 0;
        if (s.denied) {
            so = !so;
        }
        if (s == forcedNode) {
            so = forcedSo;
        }
        if (now.askings == flipped) {
            so = !so;
        }
        now.askings++;
        return so;
    }

    private int value(Node n) {
        if (n.kind == 4) {
            return n.value;
        }
        if (n.kind == 5) {
            return memory[n.value];
        }
        int first = value(n.sides.get(0));
        if (n.kind == 6) {
            return n.out ? first : -first;
        }
        int second = value(n.sides.get(1));
        int l = n.swapped ? second : first;
        int r = n.swapped ? first : second;
        if ((n.value == 3 || n.value == 4) && r == 0) {
            throw new End(1, 0);
        }
        boolean[] compares = n.value < 5 ? null : new boolean[] {l < r, l <= r, l == r, l != r, l > r, l >= r};
        return n.value == 0 ? l + r : n.value == 1 ? l - r : n.value == 2 ? l * r : n.value == 3 ? l / r
                : n.value == 4 ? l % r : compares[n.value - 5] ? 1 : 0;
    }

    boolean passes(int[] test) {
        Outcome o = run(test);
        return o.how == 0 && o.result == test[3];
    }

    int passing(int held) {
        return (int) tests.stream().filter(t -> t[4] == held && passes(t)).count();
    }

    int all(int held) {
        return (int) tests.stream().filter(t -> t[4] == held).count();
    }

    boolean allShownPass() {
        return tests.stream().filter(t -> t[4] == 0).allMatch(this::passes);
    }

    // ---- suspects

    List<Node> statements() {
        return nodes.stream().filter(n -> n.kind < 4).toList();
    }

    int[] spectrum(Node s) {
        int[] row = new int[4];
        for (int[] t : tests) {
            if (t[4] == 0) {
                boolean passes = passes(t);
                boolean does = run(t).steps.contains(s);
                row[(passes ? 1 : 0) + (does ? 0 : 2)]++;
            }
        }
        return row;
    }

    /** Above and below, in lowest terms. */
    long[] score(int rule, Node s) {
        int[] row = spectrum(s);
        long f = row[0];
        long p = row[1];
        long fAll = f + row[2];
        long pAll = p + row[3];
        if (f == 0) {
            return new long[] {0, 1};
        }
        long above = f * f;
        long below = fAll * (f + p);
        if (rule == 0) {
            above = f * Math.max(pAll, 1);
            below = above + p * fAll;
        } else if (rule == 2) {
            below = p + fAll - f;
            if (below == 0) {
                return new long[] {1000, 1};
            }
        }
        for (long d = below; d > 1; d--) {
            if (above % d == 0 && below % d == 0) {
                return new long[] {above / d, below / d};
            }
        }
        return new long[] {above, below};
    }

    List<Node> ranked(int rule) {
        List<Node> list = new ArrayList<>(statements());
        List<long[]> scores = list.stream().map(s -> score(rule, s)).toList();
        List<Integer> order = new ArrayList<>();
        for (int i = 0; i < list.size(); i++) {
            order.add(i);
        }
        order.sort((i, k) -> Long.compare(scores.get(k)[0] * scores.get(i)[1], scores.get(i)[0] * scores.get(k)[1]));
        return order.stream().map(list::get).toList();
    }

    // ---- changes

    boolean gone(Node n) {
        if (n.out) {
            return true;
        }
        for (Node s = n.statement; s != null; s = s.parent) {
            if (s.out) {
                return true;
            }
        }
        return false;
    }

    int state(Node n) {
        return gone(n) ? 1 : n.denied ? 2 : n.swapped ? 3 : 0;
    }

    /** What each change makes: a value, or -100. */
    List<Integer> made(Node n) {
        List<Integer> list = new ArrayList<>();
        if (gone(n)) {
            return list;
        }
        switch (n.kind) {
            case 4 -> {
                list.add(n.value + 1);
                list.add(n.value - 1);
                if (!list.contains(0) && n.value != 0) {
                    list.add(0);
                }
            }
            case 5 -> variables.stream().filter(v -> v != n.value).forEach(list::add);
            case 7 -> {
                for (int s = n.value < 5 ? 0 : 5; s < (n.value < 5 ? 5 : 11); s++) {
                    if (s != n.value) {
                        list.add(s);
                    }
                }
                if (List.of(1, 3, 4).contains(n.value)) {
                    list.add(-100);
                }
            }
            case 1, 2 -> list.addAll(List.of(-100, -100));
            default -> list.add(-100);
        }
        return list;
    }

    /** Does a change; what comes back takes it back. */
    Runnable doChange(Node n, int change) {
        int value = n.value;
        boolean out = n.out;
        boolean denied = n.denied;
        boolean swapped = n.swapped;
        int made = made(n).get(change);
        if (made != -100) {
            n.value = made;
        } else if (n.kind == 7) {
            n.swapped = !swapped;
        } else if ((n.kind == 1 || n.kind == 2) && change == 0) {
            n.denied = !denied;
        } else {
            n.out = true;
        }
        return () -> {
            n.value = value;
            n.out = out;
            n.denied = denied;
            n.swapped = swapped;
        };
    }

    /** Shown, held that pass. */
    int[] with(Node n, int change) {
        Runnable back = doChange(n, change);
        int[] row = {passing(0), passing(1)};
        back.run();
        return row;
    }

    boolean somethingToMend() {
        return passing(0) < all(0);
    }

    /** Node, change, held that pass, overfit, first alike. */
    List<int[]> mends() {
        List<int[]> list = new ArrayList<>();
        if (!somethingToMend()) {
            return list;
        }
        List<List<Outcome>> ends = new ArrayList<>();
        for (Node s : ranked(1)) {
            for (Node n : nodes) {
                for (int c = 0; n.statement == s && c < made(n).size(); c++) {
                    Runnable back = doChange(n, c);
                    if (allShownPass()) {
                        List<Outcome> row = tests.stream().map(this::run).toList();
                        int alike = 0;
                        while (alike < ends.size() && !alike(ends.get(alike), row)) {
                            alike++;
                        }
                        ends.add(row);
                        list.add(new int[] {nodes.indexOf(n), c, passing(1), passing(1) < all(1) ? 1 : 0, alike});
                    }
                    back.run();
                }
            }
        }
        return list;
    }

    private static boolean alike(List<Outcome> one, List<Outcome> other) {
        for (int i = 0; i < one.size(); i++) {
            if (!one.get(i).endsAs(other.get(i))) {
                return false;
            }
        }
        return true;
    }

    int[] pair() {
        int[] none = {-2, -2, -2, -2, -2};
        if (!somethingToMend() || !mends().isEmpty()) {
            return none;
        }
        List<Node> ranked = ranked(1);
        List<Node> first = ranked.subList(0, Math.min(6, ranked.size()));
        List<Node> list = nodes.stream().filter(n -> first.contains(n.statement)).toList();
        for (int i = 0; i < list.size(); i++) {
            for (int c = 0; c < made(list.get(i)).size(); c++) {
                for (int k = i + 1; k < list.size(); k++) {
                    for (int d = 0; d < made(list.get(k)).size(); d++) {
                        // The other change first: as all is now, not as the first one leaves it.
                        Runnable backOther = doChange(list.get(k), d);
                        if (!made(list.get(i)).isEmpty()) {
                            Runnable back = doChange(list.get(i), c);
                            boolean mended = allShownPass();
                            int held = mended ? passing(1) : 0;
                            back.run();
                            if (mended) {
                                backOther.run();
                                return new int[] {nodes.indexOf(list.get(i)), c, nodes.indexOf(list.get(k)), d, held};
                            }
                        }
                        backOther.run();
                    }
                }
            }
        }
        return none;
    }

    int[] values(Node n) {
        List<Integer> good = new ArrayList<>();
        int told = n.value;
        for (int v = -99; v <= 99; v++) {
            n.value = v;
            if (allShownPass()) {
                good.add(v);
            }
        }
        n.value = told;
        if (good.isEmpty()) {
            return new int[] {0, -200, -200, -200};
        }
        int nearest = Collections.min(good, (a, b) -> Math.abs(a - told) != Math.abs(b - told)
                ? Math.abs(a - told) - Math.abs(b - told) : a - b);
        return new int[] {good.size(), Collections.min(good), Collections.max(good), nearest};
    }

    int forced(Node n, boolean so) {
        forcedNode = n;
        forcedSo = so;
        int passing = passing(0);
        forcedNode = null;
        return passing;
    }

    int flip(int[] test) {
        if (passes(test)) {
            return -1;
        }
        int askings = run(test).askings;
        for (flipped = 0; flipped < askings; flipped++) {
            if (passes(test)) {
                int found = flipped;
                flipped = -1;
                return found;
            }
        }
        flipped = -1;
        return -2;
    }

    int take(int node, int change) {
        if (node < 0 || node >= nodes.size() || change < 0 || change >= made(nodes.get(node)).size() || taken.size() == 20) {
            return -1;
        }
        taken.add(doChange(nodes.get(node), change));
        return taken.size();
    }

    int undo() {
        if (taken.isEmpty()) {
            return -1;
        }
        taken.remove(taken.size() - 1).run();
        return taken.size();
    }

    int[] counts() {
        int changes = nodes.stream().mapToInt(n -> made(n).size()).sum();
        boolean empty = nodes.isEmpty();
        return new int[] {nodes.size(), statements().size(), tests.size(), all(1), empty ? 0 : passing(0), empty ? 0 : passing(1),
            variables.size(), taken.size(), 0, changes};
    }

    @Override
    public String toString() {
        return Arrays.deepToString(tests.toArray());
    }
}
