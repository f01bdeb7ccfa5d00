import java.util.Arrays;

/**
 * Reads designs of a small hardware language with levels of secrecy, of any layout, into trees,
 * tells the first fault of what is none, and writes trees, or parts of them, with the fewest
 * brackets.
 */
public final class DesignReader {
    public static final int NONE = -1;

    private static final int REFUSED = -2;
    private static final int MOST_BYTES = 8000;
    private static final int BYTES_A_FEED = 20;
    private static final int TREES = 2;

    private final Tree[] trees;
    private final NameTable nameTable;
    private final Tokens tokens;
    private final Parser parser;
    private final Writer writer;
    private final byte[] fed;
    private int fedCount;

    public DesignReader() {
        trees = new Tree[TREES];
        for (int i = 0; i < TREES; i++) {
            trees[i] = new Tree();
        }
        nameTable = new NameTable();
        fed = new byte[MOST_BYTES];
        tokens = new Tokens(fed);
        parser = new Parser(tokens, nameTable, trees[0]);
        writer = new Writer(nameTable);
    }

    public int feed(int a, int b, int c, int d, int e) {
        if (fedCount > MOST_BYTES - BYTES_A_FEED) {
            return NONE;
        }
        appendFour(a);
        appendFour(b);
        appendFour(c);
        appendFour(d);
        appendFour(e);
        return fedCount;
    }

    public int read(int tree, int n) {
        if (!isTree(tree) || n < NONE || n > fedCount) {
            return REFUSED;
        }
        tokens.scan(n == NONE ? fedCount : n);
        fedCount = 0;
        return parser.design(trees[tree]);
    }

    public int nodes(int tree) {
        return isTree(tree) ? trees[tree].count : 0;
    }

    public int node(int tree, int k, int what) {
        if (!isNode(tree, k)) {
            return REFUSED;
        }
        Tree t = trees[tree];
        switch (what) {
            case 0:
                return t.kind[k];
            case 1:
                return t.place[k];
            case 2:
                return t.value[k];
            case 3:
                return t.size[k];
            case 4:
                return t.parts[k];
            default:
                return REFUSED;
        }
    }

    public int part(int tree, int k, int i) {
        return isNode(tree, k) ? trees[tree].partOf(k, i) : NONE;
    }

    public int whole(int tree, int k) {
        return isNode(tree, k) ? trees[tree].parent[k] : NONE;
    }

    public int names() {
        return nameTable.count;
    }

    public int spelt(int name, int i) {
        return nameTable.byteOf(name, i);
    }

    public int write(int tree, int k) {
        return isNode(tree, k) ? writer.writeNode(trees[tree], k) : NONE;
    }

    public int written(int i) {
        return i >= 0 && i < writer.doneCount ? writer.done[i] : NONE;
    }

    public int again() {
        System.arraycopy(writer.done, 0, fed, 0, writer.doneCount);
        fedCount = writer.doneCount;
        return fedCount;
    }

    public boolean same() {
        return trees[0].isLike(trees[1]);
    }

    private boolean isTree(int tree) {
        return tree >= 0 && tree < TREES;
    }

    private boolean isNode(int tree, int k) {
        return isTree(tree) && k >= 0 && k < trees[tree].count;
    }

    private void appendFour(int bytes) {
        for (int shift = 24; shift >= 0 && fedCount < MOST_BYTES; shift -= 8) {
            fed[fedCount] = (byte) (bytes >> shift);
            fedCount++;
        }
    }

    private static boolean isDigit(int c) {
        return c >= '0' && c <= '9';
    }

    private static boolean isLetter(int c) {
        return c >= 'A' && c <= 'Z' || c >= 'a' && c <= 'z' || c == '_';
    }

    private static boolean isOfName(int c) {
        return isLetter(c) || isDigit(c);
    }

    /** The kinds of nodes, as the document numbers them. */
    private static final class Kind {
        static final int DESIGN = 0;
        static final int LEVEL = 1;
        static final int CONST = 2;
        static final int FUN = 3;
        static final int CONSTANTS = 4;
        static final int PARAMETER = 5;
        static final int MODE = 6;
        static final int IN = 7;
        static final int REG = 8;
        static final int WIRE = 9;
        static final int OUT = 10;
        static final int NEXT = 11;
        static final int BLOCK = 12;
        static final int ASSIGN = 13;
        static final int IF = 14;
        static final int CASE = 15;
        static final int CASE_OF = 16;
        static final int DEFAULT = 17;
        static final int LABEL = 18;
        static final int LABEL_IF = 19;
        static final int NUMBER = 20;
        static final int NAME = 21;
        static final int ROW = 22;
        static final int CHOICE = 23;
        static final int OR = 24;
        static final int XOR = 25;
        static final int AND = 26;
        static final int EQUAL = 27;
        static final int UNEQUAL = 28;
        static final int LESS = 29;
        static final int AT_MOST = 30;
        static final int MORE = 31;
        static final int AT_LEAST = 32;
        static final int LEFT = 33;
        static final int RIGHT = 34;
        static final int PLUS = 35;
        static final int MINUS = 36;
        static final int TIMES = 37;
        static final int DIVIDE = 38;
        static final int REST = 39;
        static final int INVERT = 40;
        static final int NEGATE = 41;
        static final int NOT = 42;
        static final int JOIN = 43;
        static final int BIT = 44;
        static final int BITS = 45;
        static final int CALL = 46;
        static final int GIVEN = 47;
        static final int NUM = 48;
        static final int ZEXT = 49;
        static final int SEXT = 50;
        static final int ANY = 51;
        static final int ALL = 52;
        static final int ODD = 53;

        /** How tightly the operators from OR to REST bind. */
        private static final int[] BINDING = {1, 2, 3, 4, 4, 5, 5, 5, 5, 6, 6, 7, 7, 8, 8, 8};

        private Kind() {
        }

        static boolean isOperator(int kind) {
            return kind >= OR && kind <= REST;
        }

        static boolean isUnary(int kind) {
            return kind >= INVERT && kind <= NOT;
        }

        static int binding(int operator) {
            return isOperator(operator) ? BINDING[operator - OR] : 0;
        }
    }

    /** The kinds of tokens; a sign of one byte is its own kind. */
    private static final class Token {
        static final int END = 0;
        static final int BAD = 1;
        static final int NAME = 2;
        static final int NUMBER = 3;
        static final int EQUAL = 128;
        static final int UNEQUAL = 129;
        static final int AT_MOST = 130;
        static final int AT_LEAST = 131;
        static final int LEFT = 132;
        static final int RIGHT = 133;
        static final int LEVEL = 140;
        static final int CONST = 141;
        static final int FUN = 142;
        static final int MODE = 143;
        static final int IN = 144;
        static final int REG = 145;
        static final int WIRE = 146;
        static final int OUT = 147;
        static final int NEXT = 148;
        static final int IF = 149;
        static final int ELSE = 150;
        static final int CASE = 151;
        static final int DEFAULT = 152;
        static final int NUM = 153;
        static final int ZEXT = 154;
        static final int SEXT = 155;
        static final int ANY = 156;
        static final int ALL = 157;
        static final int ODD = 158;

        /** No word is longer than this. */
        static final int LONGEST_WORD = 7;

        // The words from LEVEL to ODD as numbers: to look for a number takes one step a word.
        private static final long[] SPELLINGS = {
            0x6c6576656cL, // level
            0x636f6e7374L, // const
            0x66756eL, // fun
            0x6d6f6465L, // mode
            0x696eL, // in
            0x726567L, // reg
            0x77697265L, // wire
            0x6f7574L, // out
            0x6e657874L, // next
            0x6966L, // if
            0x656c7365L, // else
            0x63617365L, // case
            0x64656661756c74L, // default
            0x6e756dL, // num
            0x7a657874L, // zext
            0x73657874L, // sext
            0x616e79L, // any
            0x616c6cL, // all
            0x6f6464L, // odd
        };

        private Token() {
        }

        /** The word that is spelt by some bytes, of which each eight bits are one; NAME when there is none. */
        static int ofSpelling(long bytes) {
            for (int i = 0; i < SPELLINGS.length; i++) {
                if (SPELLINGS[i] == bytes) {
                    return LEVEL + i;
                }
            }
            return NAME;
        }
    }

    /** The names of all texts, numbered as they were read first. */
    private static final class NameTable {
        // 512 calls feed at most 10240 bytes, and a name needs another token behind it.
        private static final int MOST_SPELLING = 10240;
        private static final int MOST_NAMES = 5120;
        private static final int BUCKETS = 1024;

        private final byte[] spelling = new byte[MOST_SPELLING];
        private final int[] start = new int[MOST_NAMES + 1];
        private final int[] newest = new int[BUCKETS];
        private final int[] older = new int[MOST_NAMES];
        int count;

        NameTable() {
            Arrays.fill(newest, NONE);
        }

        /** The number of a name, which is a new one if need be; NONE when there is no room. */
        int numberOf(byte[] text, int from, int length) {
            int bucket = bucketOf(text, from, length);
            int name = newest[bucket];
            for (int i = 0; i < MOST_NAMES && name != NONE; i++) {
                if (isSpelt(name, text, from, length)) {
                    return name;
                }
                name = older[name];
            }
            if (count >= MOST_NAMES || start[count] + length > MOST_SPELLING) {
                return NONE;
            }
            System.arraycopy(text, from, spelling, start[count], length);
            start[count + 1] = start[count] + length;
            older[count] = newest[bucket];
            newest[bucket] = count;
            count++;
            return count - 1;
        }

        /** Forgets the newest names, so that the first ones, so many, are left. */
        void keepFirst(int kept) {
            for (int name = count - 1; name >= kept && name >= 0; name--) {
                newest[bucketOf(spelling, start[name], start[name + 1] - start[name])] = older[name];
                count = name;
            }
        }

        int byteOf(int name, int i) {
            if (name < 0 || name >= count || i < 0 || i >= start[name + 1] - start[name]) {
                return NONE;
            }
            return spelling[start[name] + i];
        }

        private boolean isSpelt(int name, byte[] text, int from, int length) {
            if (start[name + 1] - start[name] != length) {
                return false;
            }
            for (int i = 0; i < length; i++) {
                if (spelling[start[name] + i] != text[from + i]) {
                    return false;
                }
            }
            return true;
        }

        private static int bucketOf(byte[] text, int from, int length) {
            int sum = 0;
            for (int i = 0; i < length; i++) {
                sum = sum * 31 + text[from + i];
            }
            return sum & (BUCKETS - 1);
        }
    }

    /** The tokens of a text, up to the first byte at which there is none, or to the end. */
    private static final class Tokens {
        private static final int LONGEST_NAME = 30;
        private static final long GREATEST_NUMBER = 2147483647;
        private static final String LONE_SIGNS = "(){}[],;:?+-*/%&|^~";

        private final int[] kinds = new int[MOST_BYTES + 1];
        private final int[] places = new int[MOST_BYTES + 1];
        /** Of a NUMBER its value, of a NAME its length. */
        private final int[] values = new int[MOST_BYTES + 1];
        final byte[] text;
        private int length;
        private int count;
        private int current;

        Tokens(byte[] text) {
            this.text = text;
        }

        /** Scans the first n bytes. */
        void scan(int n) {
            length = Math.min(n, text.length);
            count = 0;
            current = 0;
            int at = 0;
            for (int i = 0; i <= MOST_BYTES && at != NONE; i++) {
                at = scanToken(behindBlanks(at));
            }
        }

        int kind() {
            return kinds[current];
        }

        int place() {
            return places[current];
        }

        int value() {
            return values[current];
        }

        /** Goes on to the next token; answers true, as a link of a chain of conditions. */
        boolean step() {
            if (current < count - 1) {
                current++;
            }
            return true;
        }

        private int byteAt(int i) {
            return i >= 0 && i < length ? text[i] & 255 : NONE;
        }

        private int behindBlanks(int from) {
            boolean inRemark = false;
            for (int i = from; i < length; i++) {
                int c = byteAt(i);
                if (inRemark) {
                    inRemark = c != 10;
                } else if (c == '/' && byteAt(i + 1) == '/') {
                    inRemark = true;
                } else if (c != 9 && c != 10 && c != 13 && c != 32) {
                    return i;
                }
            }
            return length;
        }

        /** Keeps the token at a place: the place behind it, NONE when it is the last one. */
        private int scanToken(int at) {
            int c = byteAt(at);
            if (c == NONE) {
                return keep(Token.END, length, 0, NONE);
            }
            if (isLetter(c)) {
                return scanName(at);
            }
            return isDigit(c) ? scanNumber(at) : scanSign(at);
        }

        private int keep(int kind, int place, int value, int end) {
            if (count < kinds.length) {
                kinds[count] = kind;
                places[count] = place;
                values[count] = value;
                count++;
            }
            return end;
        }

        private int scanName(int at) {
            int end = at;
            while (end < length && isOfName(byteAt(end))) {
                end++;
            }
            if (end - at > LONGEST_NAME) {
                return keep(Token.BAD, at, 0, NONE);
            }
            return keep(wordOrName(at, end - at), at, end - at, end);
        }

        private int wordOrName(int at, int size) {
            if (size > Token.LONGEST_WORD) {
                return Token.NAME;
            }
            long bytes = 0;
            for (int i = 0; i < size; i++) {
                bytes = bytes << 8 | byteAt(at + i);
            }
            return Token.ofSpelling(bytes);
        }

        private int scanNumber(int at) {
            long value = 0;
            int end = at;
            while (end < length && isDigit(byteAt(end))) {
                // A value that is too great already stays so: it must not wrap around.
                value = Math.min(value * 10 + byteAt(end) - '0', GREATEST_NUMBER + 1);
                end++;
            }
            boolean zeroInFront = byteAt(at) == '0' && end - at > 1;
            if (zeroInFront || value > GREATEST_NUMBER || isLetter(byteAt(end))) {
                return keep(Token.BAD, at, 0, NONE);
            }
            return keep(Token.NUMBER, at, (int) value, end);
        }

        private int scanSign(int at) {
            int c = byteAt(at);
            int two = signOfTwo(c, byteAt(at + 1));
            if (two != NONE) {
                return keep(two, at, 0, at + 2);
            }
            boolean isSign = c == '=' || c == '<' || c == '>' || c == '!' || LONE_SIGNS.indexOf((char) c) >= 0;
            return isSign ? keep(c, at, 0, at + 1) : keep(Token.BAD, at, 0, NONE);
        }

        private static int signOfTwo(int first, int second) {
            if (second == '=') {
                switch (first) {
                    case '=': return Token.EQUAL;
                    case '!': return Token.UNEQUAL;
                    case '<': return Token.AT_MOST;
                    case '>': return Token.AT_LEAST;
                    default: return NONE;
                }
            }
            if (first == '<' && second == '<') {
                return Token.LEFT;
            }
            return first == '>' && second == '>' ? Token.RIGHT : NONE;
        }
    }

    /** A tree: its nodes as they stand, each with all that is in it right behind it. */
    private static final class Tree {
        // A text of n bytes has at most 1 + 3n/2 nodes: an operator with its operand, of two bytes,
        // makes three when it begins a row, and nothing else makes more than one for each byte.
        private static final int MOST_NODES = 12010;
        // One more, so that the number of the node that would come next is an index, too.
        private static final int ROOM = MOST_NODES + 1;

        final int[] kind = new int[ROOM];
        final int[] place = new int[ROOM];
        final int[] value = new int[ROOM];
        final int[] size = new int[ROOM];
        final int[] parts = new int[ROOM];
        final int[] parent = new int[ROOM];
        /** Which part of its parent a node is, from 0. */
        final int[] rank = new int[ROOM];
        int count;

        Tree() {
            begin();
            finish(1);
        }

        void begin() {
            count = 0;
            add(Kind.DESIGN, NONE, 0);
        }

        /** Adds a node behind all others, without parts: its number. */
        int add(int itsKind, int itsPlace, int itsValue) {
            int at = count;
            if (at < MOST_NODES) {
                kind[at] = itsKind;
                place[at] = itsPlace;
                value[at] = itsValue;
                size[at] = 1;
                count++;
            }
            return at;
        }

        /** Puts a node in front of those from a number on, of which none may stand open: its number. */
        int insert(int at, int itsKind, int itsPlace) {
            if (at >= 0 && at <= count && count < MOST_NODES) {
                int moved = count - at;
                System.arraycopy(kind, at, kind, at + 1, moved);
                System.arraycopy(place, at, place, at + 1, moved);
                System.arraycopy(value, at, value, at + 1, moved);
                System.arraycopy(size, at, size, at + 1, moved);
                kind[at] = itsKind;
                place[at] = itsPlace;
                value[at] = 0;
                size[at] = 1;
                count++;
            }
            return at;
        }

        /** Makes all nodes behind a node lie in it; true, as a link of a chain of conditions. */
        boolean close(int at) {
            if (at >= 0 && at < count) {
                size[at] = count - at;
            }
            return true;
        }

        /** Leaves the first nodes, so many, and finds out which is part of which. */
        void finish(int kept) {
            count = Math.max(1, Math.min(kept, count));
            size[0] = count;
            parts[0] = 0;
            parent[0] = NONE;
            for (int at = 1; at < count; at++) {
                int above = at - 1;
                for (int up = 0; up < at && above > 0 && above + size[above] <= at; up++) {
                    above = parent[above];
                }
                rank[at] = parts[above];
                parts[above]++;
                parts[at] = 0;
                parent[at] = above;
            }
        }

        int partOf(int k, int i) {
            if (i < 0 || i >= parts[k]) {
                return NONE;
            }
            int at = k + 1;
            for (int before = 0; before < i && at < count; before++) {
                at += size[at];
            }
            return at < count ? at : NONE;
        }

        boolean isLike(Tree other) {
            boolean alike = count == other.count;
            for (int i = 0; i < count && alike; i++) {
                alike = kind[i] == other.kind[i] && value[i] == other.value[i] && size[i] == other.size[i];
            }
            return alike;
        }

        /** How tightly the operators of a ROW bind: its second part is one of them. */
        int bindingOfRow(int row) {
            int second = partOf(row, 1);
            return second == NONE ? 0 : Kind.binding(kind[second]);
        }
    }

    /**
     * Reads tokens into a tree. A method that reads something answers whether that stood there; if
     * it did not, the current token is where the fault lies.
     */
    private static final class Parser {
        private static final int DEEPEST = 60;
        private static final int BINDINGS = 8;
        private static final boolean SUM = true;
        private static final boolean EXPR = false;

        private final Tokens tokens;
        private final NameTable table;
        private Tree tree;
        // The rows of operators that stand open: each with its newest operator, and how that binds.
        private final int[] rowAt = new int[DEEPEST * BINDINGS];
        private final int[] operatorAt = new int[DEEPEST * BINDINGS];
        private final int[] bindingAt = new int[DEEPEST * BINDINGS];
        private int rows;

        Parser(Tokens tokens, NameTable table, Tree tree) {
            this.tokens = tokens;
            this.table = table;
            this.tree = tree;
        }

        /** Reads a DESIGN into a tree: the place of the fault, or NONE. */
        int design(Tree into) {
            tree = into;
            tree.begin();
            for (int i = 0; i < MOST_BYTES && !at(Token.END); i++) {
                int keptNodes = tree.count;
                int keptNames = table.count;
                if (!item()) {
                    table.keepFirst(keptNames);
                    tree.finish(keptNodes);
                    return tokens.place();
                }
            }
            tree.finish(tree.count);
            return NONE;
        }

        private boolean at(int token) {
            return tokens.kind() == token;
        }

        private boolean take(int token) {
            return tokens.kind() == token && tokens.step();
        }

        private boolean takeName() {
            int name = at(Token.NAME) ? table.numberOf(tokens.text, tokens.place(), tokens.value()) : NONE;
            if (name == NONE) {
                return false;
            }
            tree.add(Kind.NAME, tokens.place(), name);
            return tokens.step();
        }

        private boolean takeNames(int between) {
            boolean good = takeName();
            for (int i = 0; i < MOST_BYTES && good && at(between); i++) {
                good = take(between) && takeName();
            }
            return good;
        }

        /** Adds a node whose first token is the current one, which is left to be read. */
        private int addHere(int kind) {
            return tree.add(kind, tokens.place(), 0);
        }

        /** Adds a node whose first token is the current one, and takes that. */
        private int addAndStep(int kind) {
            int node = tree.add(kind, tokens.place(), 0);
            tokens.step();
            return node;
        }

        private boolean item() {
            int item;
            switch (tokens.kind()) {
                case Token.LEVEL:
                    item = addAndStep(Kind.LEVEL);
                    return takeName() && (!take('>') || takeNames(',')) && take(';') && tree.close(item);
                case Token.CONST:
                    item = addAndStep(Kind.CONST);
                    return takeName() && take('=') && formula(1, SUM) && take(';') && tree.close(item);
                case Token.FUN:
                    return function();
                case Token.MODE:
                    item = addAndStep(Kind.MODE);
                    return takeName() && take('[') && formula(1, SUM) && take(']')
                        && take('=') && formula(1, SUM) && take(';') && tree.close(item);
                case Token.IN:
                    item = addAndStep(Kind.IN);
                    return takeName() && take('[') && formula(1, SUM) && take(']')
                        && take(':') && label(1) && take(';') && tree.close(item);
                case Token.REG:
                    item = addAndStep(Kind.REG);
                    return takeName() && take('[') && formula(1, SUM) && take(']')
                        && take('=') && formula(1, SUM) && take(':') && label(1) && take(';') && tree.close(item);
                case Token.WIRE:
                    item = addAndStep(Kind.WIRE);
                    return takeName() && take('=') && formula(1, EXPR) && take(';') && tree.close(item);
                case Token.OUT:
                    item = addAndStep(Kind.OUT);
                    return takeName() && take(':') && label(1)
                        && take('=') && formula(1, EXPR) && take(';') && tree.close(item);
                case Token.NEXT:
                    item = addAndStep(Kind.NEXT);
                    return block(1) && tree.close(item);
                default:
                    return false;
            }
        }

        private boolean function() {
            int item = addAndStep(Kind.FUN);
            boolean good = takeName();
            int constants = addHere(Kind.CONSTANTS);
            good = good && (!take('[') || takeNames(',') && take(']')) && tree.close(constants) && take('(');
            boolean more = good;
            for (int i = 0; i < MOST_BYTES && more; i++) {
                int parameter = addHere(Kind.PARAMETER);
                good = takeName() && take('[') && formula(1, SUM) && take(']') && tree.close(parameter);
                more = good && take(',');
            }
            return good && take(')') && take('[') && formula(1, SUM) && take(']')
                && take('=') && formula(1, EXPR) && take(';') && tree.close(item);
        }

        private boolean label(int depth) {
            if (depth > DEEPEST) {
                return false;
            }
            if (at(Token.IF)) {
                int choice = addAndStep(Kind.LABEL_IF);
                return take('(') && takeName() && take(Token.EQUAL) && formula(depth + 1, SUM) && take(')')
                    && label(depth + 1) && take(Token.ELSE) && label(depth + 1) && tree.close(choice);
            }
            int label = addHere(Kind.LABEL);
            return takeNames('|') && tree.close(label);
        }

        private boolean block(int depth) {
            if (depth > DEEPEST || !at('{')) {
                return false;
            }
            int block = addAndStep(Kind.BLOCK);
            boolean good = true;
            for (int i = 0; i < MOST_BYTES && good && !at('}'); i++) {
                good = statement(depth);
            }
            return good && take('}') && tree.close(block);
        }

        /** Reads a STATEMENT of a BLOCK that lies so deep. */
        private boolean statement(int depth) {
            int statement;
            switch (tokens.kind()) {
                case Token.NAME:
                    statement = addHere(Kind.ASSIGN);
                    return takeName() && take(Token.AT_MOST) && formula(depth + 1, EXPR)
                        && take(';') && tree.close(statement);
                case Token.IF:
                    statement = addAndStep(Kind.IF);
                    return bracketed(depth) && block(depth + 1)
                        && (!take(Token.ELSE) || block(depth + 1)) && tree.close(statement);
                case Token.CASE:
                    statement = addAndStep(Kind.CASE);
                    return bracketed(depth) && take('{') && cases(depth) && take('}') && tree.close(statement);
                default:
                    return false;
            }
        }

        private boolean cases(int depth) {
            boolean good = oneCase(depth);
            for (int i = 0; i < MOST_BYTES && good && !at('}') && !at(Token.DEFAULT); i++) {
                good = oneCase(depth);
            }
            if (good && at(Token.DEFAULT)) {
                int other = addAndStep(Kind.DEFAULT);
                good = take(':') && block(depth + 1) && tree.close(other);
            }
            return good;
        }

        private boolean oneCase(int depth) {
            int one = addHere(Kind.CASE_OF);
            return formula(depth + 1, SUM) && take(':') && block(depth + 1) && tree.close(one);
        }

        /**
         * Reads a SUM, or an EXPR. The rows that stand open are kept apart from the calls: with a
         * call for each way of binding, too many of these would stand open at once.
         */
        private boolean formula(int depth, boolean isSum) {
            if (depth > DEEPEST) {
                return false;
            }
            int first = tree.count;
            int floor = rows;
            int operand = first;
            int place = tokens.place();
            boolean good = isSum ? atom(depth) : unary(depth);
            int kind = operator(isSum);
            for (int i = 0; i < MOST_BYTES && good && kind != NONE; i++) {
                good = takeOperator(kind, floor, operand, place);
                operand = tree.count;
                place = tokens.place();
                good = good && (isSum ? atom(depth) : unary(depth));
                kind = operator(isSum);
            }
            closeRows(floor, 0);
            return good && (isSum || !at('?') || choice(first, depth));
        }

        /** Takes an operator behind an operand, of which the first node and the place are told. */
        private boolean takeOperator(int kind, int floor, int operand, int operandPlace) {
            int binding = Kind.binding(kind);
            int closed = closeRows(floor, binding);
            boolean goesOn = rows > floor && bindingAt[rows - 1] == binding;
            if (goesOn) {
                tree.close(operatorAt[rows - 1]);
            } else if (rows >= rowAt.length) {
                return false;
            } else {
                int start = closed == NONE ? operand : closed;
                int place = closed == NONE ? operandPlace : tree.place[closed];
                rowAt[rows] = tree.insert(start, Kind.ROW, place);
                bindingAt[rows] = binding;
                rows++;
            }
            operatorAt[rows - 1] = addAndStep(kind);
            return true;
        }

        /** Closes the rows above the floor that bind tighter: the outermost one of them, or NONE. */
        private int closeRows(int floor, int binding) {
            int closed = NONE;
            while (rows > floor && bindingAt[rows - 1] > binding) {
                rows--;
                tree.close(operatorAt[rows]);
                tree.close(rowAt[rows]);
                closed = rowAt[rows];
            }
            return closed;
        }

        /** The kind of the operator that is the current token; NONE when it is none here. */
        private int operator(boolean ofSum) {
            int kind = operatorKind(tokens.kind());
            boolean fits = ofSum ? kind >= Kind.PLUS : kind <= Kind.TIMES;
            return fits ? kind : NONE;
        }

        private static int operatorKind(int token) {
            switch (token) {
                case '|': return Kind.OR;
                case '^': return Kind.XOR;
                case '&': return Kind.AND;
                case Token.EQUAL: return Kind.EQUAL;
                case Token.UNEQUAL: return Kind.UNEQUAL;
                case '<': return Kind.LESS;
                case Token.AT_MOST: return Kind.AT_MOST;
                case '>': return Kind.MORE;
                case Token.AT_LEAST: return Kind.AT_LEAST;
                case Token.LEFT: return Kind.LEFT;
                case Token.RIGHT: return Kind.RIGHT;
                case '+': return Kind.PLUS;
                case '-': return Kind.MINUS;
                case '*': return Kind.TIMES;
                case '/': return Kind.DIVIDE;
                case '%': return Kind.REST;
                default: return NONE;
            }
        }

        /** Reads ? EXPR : EXPR behind a BINARY, of which the first node is told. */
        private boolean choice(int first, int depth) {
            int choice = tree.insert(first, Kind.CHOICE, tokens.place());
            return take('?') && formula(depth + 1, EXPR)
                && take(':') && formula(depth + 1, EXPR) && tree.close(choice);
        }

        /** Reads an ATOM of a SUM that lies so deep. */
        private boolean atom(int depth) {
            switch (tokens.kind()) {
                case Token.NUMBER:
                    tree.add(Kind.NUMBER, tokens.place(), tokens.value());
                    return tokens.step();
                case Token.NAME:
                    return takeName();
                case '(':
                    return take('(') && formula(depth + 1, SUM) && take(')');
                default:
                    return false;
            }
        }

        /** Reads a UNARY of an EXPR that lies so deep, or one that does so itself. */
        private boolean unary(int depth) {
            if (depth > DEEPEST) {
                return false;
            }
            switch (tokens.kind()) {
                case '~':
                    return signed(Kind.INVERT, depth);
                case '-':
                    return signed(Kind.NEGATE, depth);
                case '!':
                    return signed(Kind.NOT, depth);
                case '(':
                    return bracketed(depth);
                case '{':
                    int join = addAndStep(Kind.JOIN);
                    return list(depth + 1, EXPR) && take('}') && tree.close(join);
                case Token.NAME:
                    return named(depth);
                case Token.NUM:
                    return worded(Kind.NUM, depth);
                case Token.ZEXT:
                    return worded(Kind.ZEXT, depth);
                case Token.SEXT:
                    return worded(Kind.SEXT, depth);
                case Token.ANY:
                    return worded(Kind.ANY, depth);
                case Token.ALL:
                    return worded(Kind.ALL, depth);
                case Token.ODD:
                    return worded(Kind.ODD, depth);
                default:
                    return false;
            }
        }

        private boolean signed(int kind, int depth) {
            int node = addAndStep(kind);
            return unary(depth + 1) && tree.close(node);
        }

        private boolean bracketed(int depth) {
            return take('(') && formula(depth + 1, EXPR) && take(')');
        }

        /** Reads SUMS or EXPRS that lie so deep. */
        private boolean list(int depth, boolean areSums) {
            boolean good = formula(depth, areSums);
            for (int i = 0; i < MOST_BYTES && good && at(','); i++) {
                good = take(',') && formula(depth, areSums);
            }
            return good;
        }

        /** Reads what begins with num, zext, sext, any, all or odd. */
        private boolean worded(int kind, int depth) {
            int node = addAndStep(kind);
            boolean hasWidth = kind == Kind.NUM || kind == Kind.ZEXT || kind == Kind.SEXT;
            return take('(') && (!hasWidth || formula(depth + 1, SUM) && take(','))
                && formula(depth + 1, kind == Kind.NUM ? SUM : EXPR) && take(')') && tree.close(node);
        }

        /** Reads what begins with a NAME: what it is shows only behind that. */
        private boolean named(int depth) {
            int node = tree.count;
            int place = tokens.place();
            if (!takeName()) {
                return false;
            }
            if (!at('[') && !at('(')) {
                return true;
            }
            tree.insert(node, Kind.CALL, place);
            int given = tree.count;
            int givenPlace = tokens.place();
            if (take('[')) {
                if (!formula(depth + 1, SUM)) {
                    return false;
                }
                if (take(':')) {
                    tree.kind[node] = Kind.BITS;
                    return formula(depth + 1, SUM) && take(']') && tree.close(node);
                }
                boolean isCall = take(',');
                boolean good = !isCall || list(depth + 1, SUM);
                if (!good || !take(']')) {
                    return false;
                }
                if (!isCall && !at('(')) {
                    tree.kind[node] = Kind.BIT;
                    return tree.close(node);
                }
            }
            tree.insert(given, Kind.GIVEN, givenPlace);
            tree.close(given);
            return take('(') && list(depth + 1, EXPR) && take(')') && tree.close(node);
        }
    }

    /** Writes nodes; what was written last is kept until another one has been written whole. */
    private static final class Writer {
        private final NameTable table;
        byte[] done = new byte[MOST_BYTES];
        int doneCount;
        private byte[] draft = new byte[MOST_BYTES];
        private int draftCount;
        private boolean fits;

        Writer(NameTable table) {
            this.table = table;
        }

        /** Writes a node with all in it: how many bytes it has, or NONE, when these are too many. */
        int writeNode(Tree tree, int k) {
            draftCount = 0;
            fits = true;
            int end = k + tree.size[k];
            for (int at = k; at < end; at++) {
                if (at > k) {
                    int parent = tree.parent[at];
                    leave(tree, at - 1, parent, k);
                    putText(textBefore(tree.kind[parent], tree.rank[at], tree.parts[parent]));
                    putText(needsBrackets(tree, at) ? "(" : "");
                }
                enter(tree, at);
            }
            leave(tree, end - 1, tree.parent[k], k);
            if (!fits) {
                return NONE;
            }
            byte[] old = done;
            done = draft;
            draft = old;
            doneCount = draftCount;
            return doneCount;
        }

        private void enter(Tree tree, int at) {
            if (tree.kind[at] == Kind.NUMBER) {
                putNumber(tree.value[at]);
            } else if (tree.kind[at] == Kind.NAME) {
                putName(tree.value[at]);
            } else {
                putText(firstText(tree.kind[at], tree.parts[at]));
            }
        }

        /** Ends the nodes from one on up to, but without, one above; k is the node to be written. */
        private void leave(Tree tree, int from, int above, int k) {
            int at = from;
            for (int up = 0; up <= from && at != above && at != NONE; up++) {
                putText(lastText(tree.kind[at], tree.parts[at]));
                putText(at != k && needsBrackets(tree, at) ? ")" : "");
                at = tree.parent[at];
            }
        }

        /** Whether a node would not be read as the same part of its parent without brackets. */
        private static boolean needsBrackets(Tree tree, int at) {
            int kind = tree.kind[at];
            int parent = tree.parent[at];
            if (parent == NONE || kind != Kind.ROW && kind != Kind.CHOICE) {
                return false;
            }
            int outer = tree.kind[parent];
            if (Kind.isUnary(outer)) {
                return true;
            }
            if (kind == Kind.CHOICE) {
                return outer == Kind.ROW || Kind.isOperator(outer) || outer == Kind.CHOICE && tree.rank[at] == 0;
            }
            int binding = outer == Kind.ROW ? tree.bindingOfRow(parent) : Kind.binding(outer);
            return tree.bindingOfRow(at) <= binding;
        }

        private static String firstText(int kind, int parts) {
            switch (kind) {
                case Kind.LEVEL: return "level";
                case Kind.CONST: return "const";
                case Kind.FUN: return "fun";
                case Kind.CONSTANTS: case Kind.GIVEN: return parts > 0 ? "[" : "";
                case Kind.MODE: return "mode";
                case Kind.IN: return "in";
                case Kind.REG: return "reg";
                case Kind.WIRE: return "wire";
                case Kind.OUT: return "out";
                case Kind.NEXT: return "next";
                case Kind.BLOCK: case Kind.JOIN: return "{";
                case Kind.IF: case Kind.LABEL_IF: return "if(";
                case Kind.CASE: return "case(";
                case Kind.DEFAULT: return "default:";
                case Kind.INVERT: return "~";
                case Kind.NEGATE: return "-";
                case Kind.NOT: return "!";
                case Kind.NUM: return "num(";
                case Kind.ZEXT: return "zext(";
                case Kind.SEXT: return "sext(";
                case Kind.ANY: return "any(";
                case Kind.ALL: return "all(";
                case Kind.ODD: return "odd(";
                default: return operatorText(kind);
            }
        }

        private static String operatorText(int kind) {
            switch (kind) {
                case Kind.OR: return "|";
                case Kind.XOR: return "^";
                case Kind.AND: return "&";
                case Kind.EQUAL: return "==";
                case Kind.UNEQUAL: return "!=";
                case Kind.LESS: return "<";
                case Kind.AT_MOST: return "<=";
                case Kind.MORE: return ">";
                case Kind.AT_LEAST: return ">=";
                case Kind.LEFT: return "<<";
                case Kind.RIGHT: return ">>";
                case Kind.PLUS: return "+";
                case Kind.MINUS: return "-";
                case Kind.TIMES: return "*";
                case Kind.DIVIDE: return "/";
                case Kind.REST: return "%";
                default: return "";
            }
        }

        /** What stands in front of a part of a node of a kind, behind the part before it. */
        private static String textBefore(int kind, int rank, int parts) {
            if (rank == 0) {
                return "";
            }
            switch (kind) {
                case Kind.CONSTANTS: case Kind.JOIN: case Kind.GIVEN:
                case Kind.NUM: case Kind.ZEXT: case Kind.SEXT:
                    return ",";
                case Kind.CONST: case Kind.WIRE: return "=";
                case Kind.PARAMETER: case Kind.BIT: return "[";
                case Kind.LEVEL: return rank == 1 ? ">" : ",";
                case Kind.FUN: return textInFunction(rank, parts);
                case Kind.MODE: return rank == 1 ? "[" : "]=";
                case Kind.IN: return rank == 1 ? "[" : "]:";
                case Kind.REG: return rank == 1 ? "[" : rank == 2 ? "]=" : ":";
                case Kind.OUT: return rank == 1 ? ":" : "=";
                case Kind.ASSIGN: return "<=";
                case Kind.IF: return rank == 1 ? ")" : "else";
                case Kind.CASE: return rank == 1 ? "){" : "";
                case Kind.CASE_OF: return ":";
                case Kind.LABEL: return "|";
                case Kind.LABEL_IF: return rank == 1 ? "==" : rank == 2 ? ")" : "else";
                case Kind.CHOICE: return rank == 1 ? "?" : ":";
                case Kind.BITS: return rank == 1 ? "[" : ":";
                case Kind.CALL: return rank == 1 ? "" : rank == 2 ? "(" : ",";
                default: return "";
            }
        }

        private static String textInFunction(int rank, int parts) {
            if (rank == parts - 1) {
                return "]=";
            }
            if (rank == parts - 2) {
                return ")[";
            }
            return rank == 1 ? "" : rank == 2 ? "(" : ",";
        }

        private static String lastText(int kind, int parts) {
            switch (kind) {
                case Kind.LEVEL: case Kind.CONST: case Kind.FUN: case Kind.MODE: case Kind.IN:
                case Kind.REG: case Kind.WIRE: case Kind.OUT: case Kind.ASSIGN:
                    return ";";
                case Kind.CONSTANTS: case Kind.GIVEN:
                    return parts > 0 ? "]" : "";
                case Kind.PARAMETER: case Kind.BIT: case Kind.BITS:
                    return "]";
                case Kind.BLOCK: case Kind.CASE: case Kind.JOIN:
                    return "}";
                case Kind.CALL: case Kind.NUM: case Kind.ZEXT: case Kind.SEXT:
                case Kind.ANY: case Kind.ALL: case Kind.ODD:
                    return ")";
                default:
                    return "";
            }
        }

        private void putText(String text) {
            for (int i = 0; i < text.length(); i++) {
                if (i == 0) {
                    keepApartFrom(text.charAt(0));
                }
                put(text.charAt(i));
            }
        }

        private void putName(int name) {
            int c = table.byteOf(name, 0);
            keepApartFrom(c);
            for (int i = 1; i <= MOST_BYTES && c != NONE; i++) {
                put(c);
                c = table.byteOf(name, i);
            }
        }

        private void putNumber(int number) {
            keepApartFrom('0');
            boolean begun = false;
            for (int unit = 1000000000; unit > 0; unit /= 10) {
                int digit = number / unit % 10;
                begun = begun || digit > 0 || unit == 1;
                if (begun) {
                    put('0' + digit);
                }
            }
        }

        /** Puts a blank where the next token would be read as one with that before it. */
        private void keepApartFrom(int next) {
            if (draftCount > 0 && isOfName(draft[draftCount - 1]) && isOfName(next)) {
                put(' ');
            }
        }

        private void put(int c) {
            if (draftCount < draft.length) {
                draft[draftCount] = (byte) c;
                draftCount++;
            } else {
                fits = false;
            }
        }
    }
}
