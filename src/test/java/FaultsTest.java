import java.util.ArrayList;
import java.util.HashMap;
import java.util.HashSet;
import java.util.List;
import java.util.Map;
import java.util.Random;
import java.util.Set;
import java.util.regex.Matcher;
import java.util.regex.Pattern;

/**
 * Faults by the grammar itself: its rules are rows here, and all ways in which a text can go on are kept at once.
 * A token that fits none of them is wrong; one that fits only ways beyond a limit is too many. No reader is shared
 * with the class or with the plain mender, which both go down the grammar by calls.
 */
public final class FaultsTest {
    private static final Check CHECK = new Check();
    private static final Pattern TOKEN = Pattern.compile("[a-z]+|[0-9]+|[<>=!]=|[<>=+\\-*/%(){};]");
    private static final String[] RULES = {
        "PROGRAM: STATEMENT MORE", "MORE: | STATEMENT MORE",
        "STATEMENT: @statement VARIABLE = E ; | @statement if E BLOCK ELSE | @statement while E BLOCK | @statement return E ;",
        "ELSE: | else BLOCK", "BLOCK: @block { MORE } @blockEnds",
        "E: SUM COMPARED", "COMPARED: | < SUM | <= SUM | == SUM | != SUM | > SUM | >= SUM",
        "SUM: TERM TERMS", "TERMS: | + TERM TERMS | - TERM TERMS",
        "TERM: PART PARTS", "PARTS: | * PART PARTS | / PART PARTS | % PART PARTS",
        "PART: NUMBER | VARIABLE | @part - PART @partEnds | @part ( E ) @partEnds",
        "TESTS: LINE LINES", "LINES: | ; LINE LINES", "LINE: @test test N N N gives N HELD", "HELD: | held", "N: NUMBER | - NUMBER"};
    private static final Map<String, List<String[]>> GRAMMAR = new HashMap<>();
    private static final Random RANDOM = new Random(14);

    /** What is still to come, the next one first. */
    private record Stack(String top, Stack rest) {
    }

    /** A way to go on: what is to come, how many statements and tests were, blocks and parts around, a limit is passed. */
    private record Way(Stack stack, int statements, int tests, int blocks, int parts, boolean over) {
    }

    private static final class Token {
        final String word;
        final int place;

        Token(String word, int place) {
            this.word = word;
            this.place = place;
        }

        String terminal() {
            return word.matches("[xyzabcdef]") ? "VARIABLE" : word.matches("[0-9]{1,3}") ? "NUMBER" : word;
        }
    }

    public static void main(String[] args) {
        for (String rule : RULES) {
            List<String[]> rows = new ArrayList<>();
            for (String row : rule.substring(rule.indexOf(':') + 1).split("\\|", -1)) {
                rows.add(row.isBlank() ? new String[0] : row.trim().split(" "));
            }
            GRAMMAR.put(rule.substring(0, rule.indexOf(':')), rows);
        }
        int[] programs = new int[3];
        int[] suites = new int[3];
        for (int i = 0; i < 4000; i++) {
            programs[compare(maybeSpoiled(programText()), "PROGRAM")]++;
            suites[compare(maybeSpoiled(suiteText()), "TESTS")]++;
        }
        for (int kind = 0; kind < 3; kind++) {
            CHECK.due("programs of kind " + kind + " were enough", programs[kind] > 300 ? 1 : 0, 1);
            CHECK.due("tests of kind " + kind + " were enough", suites[kind] > 300 ? 1 : 0, 1);
        }
        CHECK.end();
    }

    /** The kind of the fault, 0 for none. */
    private static int compare(String text, String start) {
        ProgramMender m = new ProgramMender();
        int n = Check.feed(m, text);
        int got = start.equals("PROGRAM") ? m.program(n) : m.tests(n);
        int want = answer(text, start);
        CHECK.due(start + " \"" + text + "\"", got, want);
        return want < 0 ? (-2 - want) % 8 : 0;
    }

    // ---- what is due

    private static int answer(String text, String start) {
        List<Token> tokens = tokens(text);
        Set<Way> ways = Set.of(new Way(new Stack(start, null), 0, 0, 0, 0, false));
        for (Token token : tokens) {
            Set<Way> on = new HashSet<>();
            Set<Way> within = new HashSet<>();
            for (Way way : spread(ways)) {
                boolean end = way.stack == null && token.word.isEmpty();
                if (end || way.stack != null && way.stack.top.equals(token.terminal())) {
                    Way next = end ? way : new Way(way.stack.rest, way.statements, way.tests, way.blocks, way.parts, way.over);
                    on.add(next);
                    if (!next.over) {
                        within.add(next);
                    }
                }
            }
            if (within.isEmpty()) {
                return Check.fault(token.place, on.isEmpty() ? 1 : 2);
            }
            ways = within;
        }
        String counted = start.equals("PROGRAM") ? "[a-z0-9<>!+\\-*/%].*|==" : "test";
        int many = (int) tokens.stream().filter(t -> t.word.matches(counted) && !t.word.equals("else")).count();
        return start.equals("PROGRAM") && many > 60 ? Check.fault(0, 2) : many;
    }

    /** The end is a token without signs; what begins none is told as "?", and nothing is behind it. */
    private static List<Token> tokens(String text) {
        List<Token> tokens = new ArrayList<>();
        Matcher matcher = TOKEN.matcher(text);
        int at = 0;
        while (at < text.length()) {
            if (text.charAt(at) == ' ' || text.charAt(at) == '\n') {
                at++;
                continue;
            }
            if (!matcher.find(at) || matcher.start() != at || matcher.group().matches("[0-9]{4,}")) {
                tokens.add(new Token("?", at));
                return tokens;
            }
            tokens.add(new Token(matcher.group(), at));
            at = matcher.end();
        }
        tokens.add(new Token("", at));
        return tokens;
    }

    /** All ways until each begins with a sign, a word, a number, or has come to its end. */
    private static List<Way> spread(Set<Way> ways) {
        List<Way> ready = new ArrayList<>();
        List<Way> open = new ArrayList<>(ways);
        while (!open.isEmpty()) {
            Way way = open.remove(open.size() - 1);
            if (way.stack == null) {
                ready.add(way);
            } else if (way.stack.top.startsWith("@")) {
                open.add(counted(way));
            } else if (GRAMMAR.containsKey(way.stack.top)) {
                for (String[] row : GRAMMAR.get(way.stack.top)) {
                    Stack stack = way.stack.rest;
                    for (int i = row.length - 1; i >= 0; i--) {
                        stack = new Stack(row[i], stack);
                    }
                    open.add(new Way(stack, way.statements, way.tests, way.blocks, way.parts, way.over));
                }
            } else {
                ready.add(way);
            }
        }
        return ready;
    }

    private static Way counted(Way w) {
        Stack rest = w.stack.rest;
        return switch (w.stack.top) {
            case "@statement" -> new Way(rest, w.statements + 1, w.tests, w.blocks, w.parts, w.over || w.statements == 20);
            case "@test" -> new Way(rest, w.statements, w.tests + 1, w.blocks, w.parts, w.over || w.tests == 16);
            case "@block" -> new Way(rest, w.statements, w.tests, w.blocks + 1, w.parts, w.over || w.blocks == 4);
            case "@blockEnds" -> new Way(rest, w.statements, w.tests, w.blocks - 1, w.parts, w.over);
            case "@part" -> new Way(rest, w.statements, w.tests, w.blocks, w.parts + 1, w.over || w.parts == 8);
            default -> new Way(rest, w.statements, w.tests, w.blocks, w.parts - 1, w.over);
        };
    }

    // ---- texts about the limits

    private static int pick(int n) {
        return RANDOM.nextInt(n);
    }

    private static String oneOf(String... texts) {
        return texts[pick(texts.length)];
    }

    private static String programText() {
        return switch (pick(5)) {
            case 0 -> deepBlocks(3 + pick(4));
            case 1 -> manyStatements(18 + pick(5));
            case 2 -> deepParts(6 + pick(5));
            case 3 -> manyNodes(27 + pick(6));
            default -> anyTokens(pick(9));
        };
    }

    private static String deepBlocks(int depth) {
        StringBuilder text = new StringBuilder();
        for (int i = 0; i < depth; i++) {
            text.append(oneOf("if x {", "while y\n{", "if x{}else{", "y=1; if z == 2 {", "if x { } while z {"));
        }
        return text.append(oneOf("", "x=1;", "if 1 {} else {}")).append("}".repeat(depth)).toString();
    }

    private static String manyStatements(int many) {
        StringBuilder text = new StringBuilder();
        int open = 0;
        for (int i = 0; i < many; i++) {
            text.append(oneOf("x=1;", "return 2;", "if 1{}", "while x{}", "a=b;", "if y { z = 1;", "c=d;"));
            if (text.toString().endsWith("z = 1;")) {
                i++;
                open++;
            }
            if (open > 2) {
                open--;
                text.append("}");
            }
        }
        return text.append("}".repeat(open)).toString();
    }

    private static String deepParts(int depth) {
        StringBuilder text = new StringBuilder("return ");
        for (int i = 0; i < depth; i++) {
            text.append(oneOf("(", "-", "(x+", "( 1 *", "-(", "x-(", "- -", "(-x)+(", "(1<"));
        }
        long open = text.chars().filter(c -> c == '(').count() - text.chars().filter(c -> c == ')').count();
        return text.append("1").append(")".repeat((int) open)).append(";").toString();
    }

    private static String manyNodes(int many) {
        StringBuilder text = new StringBuilder("x=1");
        for (int i = 1; i < many; i++) {
            text.append(oneOf("+", "-", "*", "/", "%")).append(oneOf("1", "x", "(y)", "23", "7"));
        }
        return text.append(oneOf(";", ";y=1;", ";x", "<2;", "==-1;")).toString();
    }

    private static String anyTokens(int many) {
        StringBuilder text = new StringBuilder();
        for (int i = 0; i < many; i++) {
            text.append(oneOf("x", "y", "foo", "xy", "if", "else", "while", "return", "12", "1234", "<", "<=", "==", "!", "!=", "=", "+", "-",
                    "(", ")", "{", "}", ";", "test", "gives", "held", "return x;", "if x{}", "while y{}", "else{}", "z=1<2;")).append(oneOf("", " ", "\n"));
        }
        return text.toString();
    }

    private static String suiteText() {
        int many = pick(3) == 0 ? 1 + pick(3) : 15 + pick(4);
        List<String> lines = new ArrayList<>();
        for (int i = 0; i < many; i++) {
            lines.add("test " + pick(10) + oneOf(" ", "\n", " -", " - ") + pick(1000) + " 0 gives" + oneOf(" ", "-", " -") + pick(10) + oneOf("", " held"));
        }
        return String.join(oneOf(";", " ;\n"), lines);
    }

    private static String maybeSpoiled(String text) {
        StringBuilder spoiled = new StringBuilder(text);
        String signs = "xyzabcdefght0123456789<>=!+-*/%(){}; \n#A\t";
        int times = pick(5) < 3 ? 0 : 1 + pick(2);
        for (int i = 0; i < times && spoiled.length() > 0; i++) {
            int place = pick(spoiled.length());
            switch (pick(4)) {
                case 0 -> spoiled.setCharAt(place, signs.charAt(pick(signs.length())));
                case 1 -> spoiled.insert(place, signs.charAt(pick(signs.length())));
                case 2 -> spoiled.deleteCharAt(place);
                default -> spoiled.setLength(place);
            }
        }
        return spoiled.substring(0, Math.min(600, spoiled.length()));
    }
}
