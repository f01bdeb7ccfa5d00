/** What the tests share: texts into and out of a reader, and answers against what is due. */
final class Check {
    private static final int MOST_TOLD = 20;
    private static int wrong = 0;

    private Check() {
    }

    static void due(String what, long got, long want) {
        if (got != want) {
            fail(what + " answered " + got + ", due is " + want);
        }
    }

    static void due(String what, boolean got, boolean want) {
        if (got != want) {
            fail(what + " answered " + got + ", due is " + want);
        }
    }

    static void due(String what, String got, String want) {
        if (!got.equals(want)) {
            fail(what + " answered " + got + ", due is " + want);
        }
    }

    static void fail(String what) {
        wrong++;
        if (wrong <= MOST_TOLD) {
            System.out.println(what);
        }
    }

    /** Ends the test: with exit code 1 if an answer was wrong. */
    static void end() {
        if (wrong > 0) {
            System.out.println(wrong + " wrong");
            System.exit(1);
        }
    }

    /** Feeds a text, with blanks behind it up to twenty bytes; how many bytes the reader has. */
    static int feed(Subject reader, String text) {
        int count = 0;
        for (int from = 0; from < text.length(); from += 20) {
            count = reader.feed(four(text, from), four(text, from + 4), four(text, from + 8),
                four(text, from + 12), four(text, from + 16));
        }
        return count;
    }

    /** Four bytes of a text, with blanks behind it. */
    static int four(String text, int from) {
        int bytes = 0;
        for (int i = from; i < from + 4; i++) {
            bytes = bytes << 8 | (i < text.length() ? text.charAt(i) & 255 : ' ');
        }
        return bytes;
    }

    /** Feeds a text and reads it into a tree: what read answers. */
    static int read(Subject reader, int tree, String text) {
        feed(reader, text);
        return reader.read(tree, text.length());
    }

    /** A new reader with a good text in tree 0. */
    static Subject reader(String text) {
        Subject reader = new Subject();
        due("read of " + text, read(reader, 0, text), DesignReader.NONE);
        return reader;
    }

    /** A node with all in it, as kind, =value unless 0, @place, and its parts in brackets. */
    static String tree(Subject reader, int tree, int k) {
        StringBuilder out = new StringBuilder();
        out.append(reader.node(tree, k, 0));
        if (reader.node(tree, k, 2) != 0) {
            out.append('=').append(reader.node(tree, k, 2));
        }
        out.append('@').append(reader.node(tree, k, 1));
        int parts = reader.node(tree, k, 4);
        for (int i = 0; i < parts; i++) {
            out.append(i == 0 ? "(" : " ").append(tree(reader, tree, reader.part(tree, k, i)));
        }
        return out.append(parts > 0 ? ")" : "").toString();
    }

    /** What a node is written as, byte by byte; "NONE" when write answers that. */
    static String write(Subject reader, int tree, int k) {
        int count = reader.write(tree, k);
        if (count == DesignReader.NONE) {
            return "NONE";
        }
        String text = written(reader);
        due("write(" + tree + ", " + k + ") of " + text, count, text.length());
        return text;
    }

    static String written(Subject reader) {
        StringBuilder out = new StringBuilder();
        for (int i = 0; reader.written(i) != DesignReader.NONE; i++) {
            out.append((char) reader.written(i));
        }
        return out.toString();
    }

    static String spelt(Subject reader, int name) {
        StringBuilder out = new StringBuilder();
        for (int i = 0; reader.spelt(name, i) != DesignReader.NONE; i++) {
            out.append((char) reader.spelt(name, i));
        }
        return out.toString();
    }

    /** All that can be asked of a reader without changing it: both trees, the names, what was written last. */
    static String state(Subject reader) {
        StringBuilder out = new StringBuilder();
        for (int tree = 0; tree < 2; tree++) {
            out.append(reader.nodes(tree)).append(' ').append(tree(reader, tree, 0)).append('\n');
        }
        out.append(reader.names()).append(' ').append(allNames(reader)).append('\n');
        return out.append(written(reader)).append('\n').append(reader.same()).toString();
    }

    /** All names in their order, a blank behind each. */
    static String allNames(Subject reader) {
        StringBuilder out = new StringBuilder();
        for (int name = 0; name < reader.names(); name++) {
            out.append(spelt(reader, name)).append(' ');
        }
        return out.toString();
    }
}
