import java.util.ArrayList;
import java.util.Arrays;
import java.util.LinkedHashSet;
import java.util.List;
import java.util.Set;

/**
 * The document's grammar, rule by rule, and which tokens may follow which: found by keeping all rules that may be
 * open (as J. Earley does), not by a method for each rule as the class does. How deep things lie is not looked at.
 */
final class Grammar {
    private static final String[] RULES = {
        "DESIGN :", "DESIGN : DESIGN ITEM",
        "ITEM : level NAME ;", "ITEM : level NAME > NAMES ;", "ITEM : const NAME = SUM ;",
        "ITEM : fun NAME ( PARAMETERS ) [ SUM ] = EXPR ;", "ITEM : fun NAME [ NAMES ] ( PARAMETERS ) [ SUM ] = EXPR ;",
        "ITEM : mode NAME [ SUM ] = SUM ;", "ITEM : in NAME [ SUM ] : LABEL ;", "ITEM : reg NAME [ SUM ] = SUM : LABEL ;",
        "ITEM : wire NAME = EXPR ;", "ITEM : out NAME : LABEL = EXPR ;", "ITEM : next BLOCK",
        "NAMES : NAME", "NAMES : NAMES , NAME",
        "PARAMETERS : NAME [ SUM ]", "PARAMETERS : PARAMETERS , NAME [ SUM ]",
        "LABEL : LEVELS", "LABEL : if ( NAME == SUM ) LABEL else LABEL", "LEVELS : NAME", "LEVELS : LEVELS | NAME",
        "BLOCK : { STATEMENTS }", "STATEMENTS :", "STATEMENTS : STATEMENTS STATEMENT",
        "STATEMENT : NAME <= EXPR ;", "STATEMENT : if ( EXPR ) BLOCK", "STATEMENT : if ( EXPR ) BLOCK else BLOCK",
        "STATEMENT : case ( EXPR ) { CASES }", "STATEMENT : case ( EXPR ) { CASES default : BLOCK }",
        "CASES : SUM : BLOCK", "CASES : CASES SUM : BLOCK",
        "SUM : TERM", "SUM : SUM + TERM", "SUM : SUM - TERM",
        "TERM : ATOM", "TERM : TERM * ATOM", "TERM : TERM / ATOM", "TERM : TERM % ATOM",
        "ATOM : NUMBER", "ATOM : NAME", "ATOM : ( SUM )",
        "EXPR : BINARY", "EXPR : BINARY ? EXPR : EXPR", "BINARY : UNARY", "BINARY : BINARY OPERATOR UNARY",
        "OPERATOR : |", "OPERATOR : ^", "OPERATOR : &", "OPERATOR : ==", "OPERATOR : !=", "OPERATOR : <", "OPERATOR : <=",
        "OPERATOR : >", "OPERATOR : >=", "OPERATOR : <<", "OPERATOR : >>", "OPERATOR : +", "OPERATOR : -", "OPERATOR : *",
        "UNARY : ~ UNARY", "UNARY : - UNARY", "UNARY : ! UNARY", "UNARY : ( EXPR )", "UNARY : { EXPRS }", "UNARY : NAME",
        "UNARY : NAME [ SUM ]", "UNARY : NAME [ SUM : SUM ]", "UNARY : NAME ( EXPRS )", "UNARY : NAME [ SUMS ] ( EXPRS )",
        "UNARY : num ( SUM , SUM )", "UNARY : zext ( SUM , EXPR )", "UNARY : sext ( SUM , EXPR )", "UNARY : any ( EXPR )",
        "UNARY : all ( EXPR )", "UNARY : odd ( EXPR )",
        "EXPRS : EXPR", "EXPRS : EXPRS , EXPR", "SUMS : SUM", "SUMS : SUMS , SUM"};

    /** All tokens; a and 1 stand for all NAMEs and NUMBERs. */
    static final String[] TOKENS = {"(", ")", "{", "}", "[", "]", ",", ";", ":", "?", "=", "<", "<=", ">", ">=", "<<", ">>", "==", "!=",
        "+", "-", "*", "/", "%", "&", "|", "^", "~", "!", "level", "const", "fun", "mode", "in", "reg", "wire", "out", "next", "if",
        "else", "case", "default", "num", "zext", "sext", "any", "all", "odd", "a", "1"};

    private static final String[][] PARTS = new String[RULES.length][];
    private static final String[] LEFT = new String[RULES.length];

    static {
        for (int i = 0; i < RULES.length; i++) {
            String[] symbols = RULES[i].split(" ");
            LEFT[i] = symbols[0];
            PARTS[i] = Arrays.copyOfRange(symbols, 2, symbols.length);
        }
    }

    /** A rule, how many of its parts have been read, and behind which token it began. */
    private record Open(int rule, int read, int from) {
        String next() {
            return read < PARTS[rule].length ? PARTS[rule][read] : null;
        }

        Open step() {
            return new Open(rule, read + 1, from);
        }
    }

    private final List<Set<Open>> open = new ArrayList<>();

    Grammar() {
        Set<Open> first = new LinkedHashSet<>();
        first.add(new Open(0, 0, 0));
        first.add(new Open(1, 0, 0));
        open.add(first);
        fill();
    }

    private Set<Open> last() {
        return open.get(open.size() - 1);
    }

    /** Whether a design may go on with a token here. */
    boolean goesOnWith(String token) {
        for (Open rule : last()) {
            if (kind(token).equals(rule.next())) {
                return true;
            }
        }
        return false;
    }

    /** Whether what was read is a design. */
    boolean isWhole() {
        for (Open rule : last()) {
            if (rule.next() == null && rule.from() == 0 && LEFT[rule.rule()].equals("DESIGN")) {
                return true;
            }
        }
        return false;
    }

    void read(String token) {
        Set<Open> behind = new LinkedHashSet<>();
        for (Open rule : last()) {
            if (kind(token).equals(rule.next())) {
                behind.add(rule.step());
            }
        }
        open.add(behind);
        fill();
    }

    /** Forgets the last token. */
    void back() {
        open.remove(open.size() - 1);
    }

    private static String kind(String token) {
        char c = token.charAt(0);
        boolean isWord = Arrays.asList(TOKENS).contains(token) && !token.equals("a");
        return Character.isDigit(c) ? "NUMBER" : !isWord && (Character.isLetter(c) || c == '_') ? "NAME" : token;
    }

    /** Adds to the rules that may be open here those that begin here, and those in which one that ended goes on. */
    private void fill() {
        Set<Open> here = last();
        int before = -1;
        while (before != here.size()) {
            before = here.size();
            for (Open rule : new ArrayList<>(here)) {
                if (rule.next() == null) {
                    for (Open outer : new ArrayList<>(open.get(rule.from()))) {
                        if (LEFT[rule.rule()].equals(outer.next())) {
                            here.add(outer.step());
                        }
                    }
                } else {
                    for (int i = 0; i < RULES.length; i++) {
                        if (LEFT[i].equals(rule.next())) {
                            here.add(new Open(i, 0, open.size() - 1));
                        }
                    }
                }
            }
        }
    }
}
