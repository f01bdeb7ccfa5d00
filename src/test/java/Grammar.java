import java.util.ArrayDeque;
import java.util.ArrayList;
import java.util.Arrays;
import java.util.HashMap;
import java.util.LinkedHashMap;
import java.util.List;
import java.util.Map;

/**
 * The document's grammar, rule by rule, with the kinds of its nodes; which tokens may follow which, and what a row of
 * tokens is read as: found by keeping all rules that may be open (as J. Earley does), not by a method for each rule as
 * the class does.
 */
final class Grammar {
    private static final int SPLICED = -1;

    /** What is read, the kind of its node (- when its parts are parts of what it stands in), and its parts. */
    private static final String[] RULES = {
        "DESIGN 0 : ITEMS", "ITEMS - :", "ITEMS - : ITEMS ITEM",
        "ITEM 1 : level NAME ;", "ITEM 1 : level NAME > NAMES ;", "ITEM 2 : const NAME = SUM ;",
        "ITEM 3 : fun NAME CONSTANTS ( PARAMETERS ) [ SUM ] = EXPR ;", "CONSTANTS 4 :", "CONSTANTS 4 : [ NAMES ]",
        "ITEM 6 : mode NAME [ SUM ] = SUM ;", "ITEM 7 : in NAME [ SUM ] : LABEL ;", "ITEM 8 : reg NAME [ SUM ] = SUM : LABEL ;",
        "ITEM 9 : wire NAME = EXPR ;", "ITEM 10 : out NAME : LABEL = EXPR ;", "ITEM 11 : next BLOCK",
        "NAMES - : NAME", "NAMES - : NAMES , NAME",
        "PARAMETERS - : PARAMETER", "PARAMETERS - : PARAMETERS , PARAMETER", "PARAMETER 5 : NAME [ SUM ]",
        "LABEL 18 : LEVELS", "LABEL 19 : if ( NAME == SUM ) LABEL else LABEL", "LEVELS - : NAME", "LEVELS - : LEVELS | NAME",
        "BLOCK 12 : { STATEMENTS }", "STATEMENTS - :", "STATEMENTS - : STATEMENTS STATEMENT",
        "STATEMENT 13 : NAME <= EXPR ;", "STATEMENT 14 : if ( EXPR ) BLOCK", "STATEMENT 14 : if ( EXPR ) BLOCK else BLOCK",
        "STATEMENT 15 : case ( EXPR ) { CASES }", "STATEMENT 15 : case ( EXPR ) { CASES DEFAULT }",
        "CASES - : CASE", "CASES - : CASES CASE", "CASE 16 : SUM : BLOCK", "DEFAULT 17 : default : BLOCK",
        "SUM - : TERM", "SUM 22 : TERM ADDED", "ADDED - : ADD", "ADDED - : ADDED ADD", "ADD 35 : + TERM", "ADD 36 : - TERM",
        "TERM - : ATOM", "TERM 22 : ATOM TIMES", "TIMES - : TIME", "TIMES - : TIMES TIME", "TIME 37 : * ATOM", "TIME 38 : / ATOM",
        "TIME 39 : % ATOM", "ATOM - : NUMBER", "ATOM - : NAME", "ATOM - : ( SUM )",
        "EXPR - : BINARY1", "EXPR 23 : BINARY1 ? EXPR : EXPR",
        "BINARY1 - : BINARY2", "BINARY1 22 : BINARY2 ROW1", "ROW1 - : SIGN1", "ROW1 - : ROW1 SIGN1", "SIGN1 24 : | BINARY2",
        "BINARY2 - : BINARY3", "BINARY2 22 : BINARY3 ROW2", "ROW2 - : SIGN2", "ROW2 - : ROW2 SIGN2", "SIGN2 25 : ^ BINARY3",
        "BINARY3 - : BINARY4", "BINARY3 22 : BINARY4 ROW3", "ROW3 - : SIGN3", "ROW3 - : ROW3 SIGN3", "SIGN3 26 : & BINARY4",
        "BINARY4 - : BINARY5", "BINARY4 22 : BINARY5 ROW4", "ROW4 - : SIGN4", "ROW4 - : ROW4 SIGN4", "SIGN4 27 : == BINARY5",
        "SIGN4 28 : != BINARY5",
        "BINARY5 - : BINARY6", "BINARY5 22 : BINARY6 ROW5", "ROW5 - : SIGN5", "ROW5 - : ROW5 SIGN5", "SIGN5 29 : < BINARY6",
        "SIGN5 30 : <= BINARY6", "SIGN5 31 : > BINARY6", "SIGN5 32 : >= BINARY6",
        "BINARY6 - : BINARY7", "BINARY6 22 : BINARY7 ROW6", "ROW6 - : SIGN6", "ROW6 - : ROW6 SIGN6", "SIGN6 33 : << BINARY7",
        "SIGN6 34 : >> BINARY7",
        "BINARY7 - : BINARY8", "BINARY7 22 : BINARY8 ROW7", "ROW7 - : SIGN7", "ROW7 - : ROW7 SIGN7", "SIGN7 35 : + BINARY8",
        "SIGN7 36 : - BINARY8",
        "BINARY8 - : UNARY", "BINARY8 22 : UNARY ROW8", "ROW8 - : SIGN8", "ROW8 - : ROW8 SIGN8", "SIGN8 37 : * UNARY",
        "UNARY 40 : ~ SIGNED", "UNARY 41 : - SIGNED", "UNARY 42 : ! SIGNED", "SIGNED - : UNARY",
        "UNARY - : ( EXPR )", "UNARY 43 : { EXPRS }", "UNARY - : NAME", "UNARY 44 : NAME [ SUM ]", "UNARY 45 : NAME [ SUM : SUM ]",
        "UNARY 46 : NAME GIVEN ( EXPRS )", "GIVEN 47 :", "GIVEN 47 : [ SUMS ]",
        "UNARY 48 : num ( SUM , SUM )", "UNARY 49 : zext ( SUM , EXPR )", "UNARY 50 : sext ( SUM , EXPR )",
        "UNARY 51 : any ( EXPR )", "UNARY 52 : all ( EXPR )", "UNARY 53 : odd ( EXPR )",
        "EXPRS - : EXPR", "EXPRS - : EXPRS , EXPR", "SUMS - : SUM", "SUMS - : SUMS , SUM"};

    /** What lies one deeper than the innermost one of these in which it lies. */
    private static final List<String> DEEPER = List.of("BLOCK", "LABEL", "SUM", "EXPR", "SIGNED");
    private static final int DEEPEST = 60;

    /** All tokens; a and 1 stand for all NAMEs and NUMBERs. */
    static final String[] TOKENS = {"(", ")", "{", "}", "[", "]", ",", ";", ":", "?", "=", "<", "<=", ">", ">=", "<<", ">>", "==", "!=",
        "+", "-", "*", "/", "%", "&", "|", "^", "~", "!", "level", "const", "fun", "mode", "in", "reg", "wire", "out", "next", "if",
        "else", "case", "default", "num", "zext", "sext", "any", "all", "odd", "a", "1"};

    private static final String[] LEFT = new String[RULES.length];
    private static final int[] KIND = new int[RULES.length];
    private static final String[][] PARTS = new String[RULES.length][];
    private static final Map<String, List<Integer>> RULES_OF = new HashMap<>();
    private static final List<String> WORDS_AND_SIGNS = Arrays.asList(TOKENS).subList(0, TOKENS.length - 2);

    static {
        for (int i = 0; i < RULES.length; i++) {
            String[] symbols = RULES[i].split(" ");
            LEFT[i] = symbols[0];
            KIND[i] = symbols[1].equals("-") ? SPLICED : Integer.parseInt(symbols[1]);
            PARTS[i] = Arrays.copyOfRange(symbols, 3, symbols.length);
            RULES_OF.computeIfAbsent(LEFT[i], left -> new ArrayList<>()).add(i);
        }
    }

    /** A node: its kind, its tokens from one on up to, but without, another one, that at which it lies, and its parts. */
    static final class Node {
        final int kind;
        final int from;
        final int to;
        int lies;
        final List<Node> parts = new ArrayList<>();

        Node(int kind, int from, int to) {
            this.kind = kind;
            this.from = from;
            this.to = to;
            this.lies = from;
        }
    }

    /** A rule, how many of its parts have been read, behind which token it began, and how deep its parts lie. */
    private record Open(int rule, int read, int from, int depth) {
        String next() {
            return read < PARTS[rule].length ? PARTS[rule][read] : null;
        }

        Open step() {
            return new Open(rule, read + 1, from, depth);
        }
    }

    /** How an open rule came to be: from one with a part less, behind a token; by what was read (null: a token). */
    private record Origin(Open before, int at, Open part) {
    }

    private final List<Map<Open, Origin>> open = new ArrayList<>();
    private final List<String> tokens = new ArrayList<>();
    private final ArrayDeque<Open> waiting = new ArrayDeque<>();

    Grammar() {
        open.add(new LinkedHashMap<>());
        keep(new Open(0, 0, 0, 0), null);
        fill();
    }

    private Map<Open, Origin> last() {
        return open.get(open.size() - 1);
    }

    private void keep(Open rule, Origin origin) {
        if (!last().containsKey(rule)) {
            last().put(rule, origin);
            waiting.add(rule);
        }
    }

    /** Whether a design may go on with a token here, and none of it lies too deep. */
    boolean goesOnWith(String token) {
        for (Open rule : last().keySet()) {
            if (kind(token).equals(rule.next())) {
                return true;
            }
        }
        return false;
    }

    /** Whether what was read is a design. */
    boolean isWhole() {
        return last().containsKey(new Open(0, 1, 0, 0));
    }

    void read(String token) {
        int at = open.size() - 1;
        Map<Open, Origin> before = last();
        tokens.add(token);
        open.add(new LinkedHashMap<>());
        for (Open rule : before.keySet()) {
            if (kind(token).equals(rule.next())) {
                keep(rule.step(), new Origin(rule, at, null));
            }
        }
        fill();
    }

    /** Forgets the last token. */
    void back() {
        open.remove(open.size() - 1);
        tokens.remove(tokens.size() - 1);
    }

    /** What was read, which is a design, as a tree. */
    Node tree() {
        List<Node> design = new ArrayList<>();
        add(new Open(0, 1, 0, 0), open.size() - 1, design);
        return design.get(0);
    }

    static String kind(String token) {
        if (WORDS_AND_SIGNS.contains(token)) {
            return token;
        }
        return Character.isDigit(token.charAt(0)) ? "NUMBER" : "NAME";
    }

    /** Adds to the rules that may be open here those that begin here, and those in which one that ended goes on. */
    private void fill() {
        int here = open.size() - 1;
        while (!waiting.isEmpty()) {
            Open rule = waiting.remove();
            if (rule.next() == null) {
                for (Open outer : new ArrayList<>(open.get(rule.from()).keySet())) {
                    if (LEFT[rule.rule()].equals(outer.next()) && depthIn(outer) == rule.depth()) {
                        keep(outer.step(), new Origin(outer, rule.from(), rule));
                    }
                }
            } else if (RULES_OF.containsKey(rule.next()) && depthIn(rule) <= DEEPEST) {
                begin(rule, here);
            }
        }
    }

    /** How deep the next part of a rule, or what is in that, lies. */
    private static int depthIn(Open rule) {
        return rule.depth() + (DEEPER.contains(rule.next()) ? 1 : 0);
    }

    private void begin(Open outer, int here) {
        for (int i : RULES_OF.get(outer.next())) {
            Open rule = new Open(i, 0, here, depthIn(outer));
            keep(rule, null);
            if (PARTS[i].length == 0) {
                // one that has no tokens has ended already, perhaps before this outer one was kept
                keep(outer.step(), new Origin(outer, here, rule));
            }
        }
    }

    /** Adds the node of a rule that ended, or, if it has none, the nodes of its parts. */
    private void add(Open ended, int end, List<Node> into) {
        int kind = KIND[ended.rule()];
        Node node = new Node(kind, ended.from(), end);
        List<Node> parts = new ArrayList<>();
        Open rule = ended;
        int to = end;
        while (rule.read() > 0) {
            Origin origin = open.get(to).get(rule);
            List<Node> part = new ArrayList<>();
            if (origin.part() != null) {
                add(origin.part(), to, part);
            } else if (kind(tokens.get(to - 1)).equals("NAME")) {
                part.add(new Node(21, to - 1, to));
            } else if (kind(tokens.get(to - 1)).equals("NUMBER")) {
                part.add(new Node(20, to - 1, to));
            } else if (kind == 23 && tokens.get(to - 1).equals("?")) {
                node.lies = to - 1;
            }
            parts.addAll(0, part);
            rule = origin.before();
            to = origin.at();
        }
        node.parts.addAll(parts);
        into.addAll(kind == SPLICED ? parts : List.of(node));
    }
}
