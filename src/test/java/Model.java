import java.util.ArrayList;
import java.util.List;
import java.util.regex.Matcher;
import java.util.regex.Pattern;

/**
 * What DesignReader promises, told once more by other means: tokens by patterns, trees by the document's rules as
 * Grammar holds them, and the fewest brackets by leaving out each pair without which the same is read. It is slow.
 */
final class Model {
    private static final Pattern BLANKS = Pattern.compile("([\\t\\n\\r ]|//[^\\n]*)*");
    private static final Pattern TOKEN = Pattern.compile("[A-Za-z_][A-Za-z0-9_]*|[0-9]+|<<|>>|<=|>=|==|!=|[(){}\\[\\],;:?=<>+\\-*/%&|^~!]");

    /** A node with its number, what it lies in, and what can be asked of it. */
    private record Numbered(int kind, int place, int value, int size, int whole, List<Integer> parts, int from, int to) {
    }

    /** A tree: its tokens, and its nodes in their order. */
    private static final class Tree {
        List<String> tokens = new ArrayList<>();
        List<Numbered> nodes = new ArrayList<>();
        Tree fewest;
    }

    private final List<String> names = new ArrayList<>();
    private final Tree[] trees = {numbered(new Grammar().tree(), List.of(), List.of()), numbered(new Grammar().tree(), List.of(), List.of())};
    private final StringBuilder fed = new StringBuilder();
    private String written = "";

    int feed(int a, int b, int c, int d, int e) {
        if (fed.length() + 20 > 8000) {
            return -1;
        }
        for (int four : new int[] {a, b, c, d, e}) {
            fed.append((char) (four >>> 24)).append((char) (four >>> 16 & 255)).append((char) (four >>> 8 & 255)).append((char) (four & 255));
        }
        return fed.length();
    }

    int read(int tree, int n) {
        if (tree != 0 && tree != 1 || n < -1 || n > fed.length()) {
            return -2;
        }
        String text = fed.substring(0, n == -1 ? fed.length() : n);
        fed.setLength(0);
        List<String> tokens = new ArrayList<>();
        List<Integer> places = new ArrayList<>();
        int end = tokens(text, tokens, places);
        Grammar grammar = new Grammar();
        int whole = 0;
        int at = 0;
        while (at < tokens.size() && grammar.goesOnWith(tokens.get(at))) {
            grammar.read(tokens.get(at));
            at++;
            whole = grammar.isWhole() ? at : whole;
        }
        boolean good = at == tokens.size() && end == text.length() && whole == at;
        int fault = good ? -1 : at < tokens.size() ? places.get(at) : end;
        while (at > whole) {
            grammar.back();
            at--;
        }
        for (String token : tokens.subList(0, whole)) {
            if (Grammar.kind(token).equals("NAME") && !names.contains(token)) {
                names.add(token);
            }
        }
        places.add(end);
        trees[tree] = numbered(grammar.tree(), tokens.subList(0, whole), places);
        return fault;
    }

    int nodes(int tree) {
        return tree == 0 || tree == 1 ? trees[tree].nodes.size() : 0;
    }

    private Numbered find(int tree, int k) {
        return k >= 0 && k < nodes(tree) ? trees[tree].nodes.get(k) : null;
    }

    int node(int tree, int k, int what) {
        Numbered node = find(tree, k);
        if (node == null || what < 0 || what > 4) {
            return -2;
        }
        return new int[] {node.kind, node.place, node.value, node.size, node.parts.size()}[what];
    }

    int part(int tree, int k, int i) {
        Numbered node = find(tree, k);
        return node != null && i >= 0 && i < node.parts.size() ? node.parts.get(i) : -1;
    }

    int whole(int tree, int k) {
        Numbered node = find(tree, k);
        return node == null ? -1 : node.whole;
    }

    int names() {
        return names.size();
    }

    int spelt(int name, int i) {
        return name >= 0 && name < names.size() && i >= 0 && i < names.get(name).length() ? names.get(name).charAt(i) : -1;
    }

    int write(int tree, int k) {
        if (find(tree, k) == null) {
            return -1;
        }
        if (trees[tree].fewest == null) {
            trees[tree].fewest = fewest(trees[tree]);
        }
        Tree fewest = trees[tree].fewest;
        written = RandomDesign.join(fewest.tokens.subList(fewest.nodes.get(k).from, fewest.nodes.get(k).to));
        return written.length();
    }

    int written(int i) {
        return i >= 0 && i < written.length() ? written.charAt(i) : -1;
    }

    int again() {
        fed.setLength(0);
        fed.append(written);
        return fed.length();
    }

    boolean same() {
        return areSame(trees[0], trees[1]);
    }

    /** The tokens of a text and their places; answers the place of what is none, or the number of its bytes. */
    private static int tokens(String text, List<String> tokens, List<Integer> places) {
        int at = behindBlanks(text, 0);
        Matcher matcher = TOKEN.matcher(text);
        while (at < text.length()) {
            matcher.region(at, text.length());
            if (!matcher.lookingAt() || !isToken(matcher.group(), text.substring(matcher.end()))) {
                return at;
            }
            tokens.add(matcher.group());
            places.add(at);
            at = behindBlanks(text, matcher.end());
        }
        return text.length();
    }

    private static int behindBlanks(String text, int at) {
        Matcher matcher = BLANKS.matcher(text);
        matcher.region(at, text.length());
        return matcher.lookingAt() ? matcher.end() : at;
    }

    private static boolean isToken(String token, String behind) {
        if (Character.isDigit(token.charAt(0))) {
            return token.matches("0|[1-9][0-9]{0,9}") && Long.parseLong(token) <= 2147483647L && !behind.matches("(?s)[A-Za-z_].*");
        }
        return !token.matches("[A-Za-z_].*") || token.length() <= 30;
    }

    private Tree numbered(Grammar.Node design, List<String> tokens, List<Integer> places) {
        Tree tree = new Tree();
        tree.tokens.addAll(tokens);
        number(design, -1, tree, places);
        return tree;
    }

    private int number(Grammar.Node node, int whole, Tree tree, List<Integer> places) {
        int k = tree.nodes.size();
        tree.nodes.add(null);
        List<Integer> parts = new ArrayList<>();
        for (Grammar.Node part : node.parts) {
            parts.add(number(part, k, tree, places));
        }
        String token = node.from < tree.tokens.size() ? tree.tokens.get(node.from) : "";
        int value = node.kind == 20 ? Integer.parseInt(token) : node.kind == 21 ? names.indexOf(token) : 0;
        int place = node.kind == 0 ? -1 : places.get(node.lies);
        tree.nodes.set(k, new Numbered(node.kind, place, value, tree.nodes.size() - k, whole, parts, node.from, node.to));
        return k;
    }

    private static boolean areSame(Tree one, Tree other) {
        if (one.nodes.size() != other.nodes.size()) {
            return false;
        }
        for (int k = 0; k < one.nodes.size(); k++) {
            Numbered a = one.nodes.get(k);
            Numbered b = other.nodes.get(k);
            if (a.kind != b.kind || a.value != b.value || !a.parts.equals(b.parts)) {
                return false;
            }
        }
        return true;
    }

    /** A tree without each pair of brackets without which the same tree is read. */
    private Tree fewest(Tree tree) {
        Tree fewest = tree;
        int at = 0;
        while (at < fewest.tokens.size()) {
            Tree less = fewest.tokens.get(at).equals("(") ? without(fewest, at) : null;
            if (less != null) {
                fewest = less;
            } else {
                at++;
            }
        }
        return fewest;
    }

    /** A tree without the brackets of which the first one is told; null when that is not the same tree. */
    private Tree without(Tree tree, int bracket) {
        List<String> tokens = new ArrayList<>(tree.tokens);
        int depth = 1;
        int end = bracket;
        while (depth > 0) {
            end++;
            depth += tokens.get(end).equals("(") ? 1 : tokens.get(end).equals(")") ? -1 : 0;
        }
        tokens.remove(end);
        tokens.remove(bracket);
        Grammar grammar = new Grammar();
        List<Integer> places = new ArrayList<>();
        for (String token : tokens) {
            if (!grammar.goesOnWith(token)) {
                return null;
            }
            grammar.read(token);
            places.add(0);
        }
        if (!grammar.isWhole()) {
            return null;
        }
        places.add(0);
        Tree less = numbered(grammar.tree(), tokens, places);
        return areSame(tree, less) ? less : null;
    }
}
