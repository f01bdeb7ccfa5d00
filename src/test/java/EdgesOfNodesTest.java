/** Promises 4 to 7 and 13 at their edges: each tree, node, what and part that there is, and those next to them. */
public final class EdgesOfNodesTest {
    /** The nodes of tree 0 of a busy reader: kinds, places, values, sizes, counts of parts. */
    private static final int[][] NODES = {
        {0, 9, 21, 22, 21, 35, 22, 21, 37, 22, 21, 24, 21},
        {-1, 0, 5, 7, 7, 8, 9, 9, 10, 12, 12, 13, 14},
        {0, 0, 0, 0, 1, 0, 0, 2, 0, 0, 3, 0, 4},
        {13, 12, 1, 10, 1, 8, 7, 1, 5, 4, 1, 2, 1},
        {1, 2, 0, 2, 0, 1, 2, 0, 1, 2, 0, 1, 0}};
    private static final int[] WHOLES = {-1, 0, 1, 1, 3, 3, 5, 6, 6, 8, 9, 9, 11};

    public static void main(String[] args) {
        nodesOfEachTree();
        nodeOfEachWhat();
        partsOfEachNode();
        wholeOfEachNode();
        askingChangesNothing();
        sameButForPlaces();
        sameOfBothTrees();
        Check.end();
    }

    private static void nodesOfEachTree() {
        Subject reader = Samples.busy();
        Check.due("nodes(0)", reader.nodes(0), 13);
        Check.due("nodes(1)", reader.nodes(1), 6);
        for (int tree : Samples.NO_TREES) {
            Check.due("nodes(" + tree + ")", reader.nodes(tree), 0);
        }
        Check.due("nodes(0) of a new object", new Subject().nodes(0), 1);
        Check.due("nodes(1) of a new object", new Subject().nodes(1), 1);
        Check.due("nodes(2) of a new object", new Subject().nodes(2), 0);
    }

    private static void nodeOfEachWhat() {
        Subject reader = Samples.busy();
        int[] noNodes = {-1, 13, 14, -2, 12010, 12011, Samples.LEAST, Samples.MOST};
        for (int what = 0; what <= 4; what++) {
            for (int k = 0; k < 13; k++) {
                Check.due("node(0, " + k + ", " + what + ")", reader.node(0, k, what), NODES[what][k]);
            }
            for (int k : noNodes) {
                Check.due("node(0, " + k + ", " + what + ")", reader.node(0, k, what), -2);
            }
            Check.due("the last node of tree 1, " + what, reader.node(1, 5, what) != -2, true);
            Check.due("none behind it, " + what, reader.node(1, 6, what), -2);
            for (int tree : Samples.NO_TREES) {
                Check.due("node(" + tree + ", 0, " + what + ")", reader.node(tree, 0, what), -2);
            }
        }
        int[] noWhats = {-1, 5, -2, 6, 32, 33, 256, Samples.LEAST, Samples.MOST};
        for (int what : noWhats) {
            for (int k = -1; k <= 13; k++) {
                Check.due("node(0, " + k + ", " + what + ")", reader.node(0, k, what), -2);
            }
            Check.due("node(2, 0, " + what + ")", reader.node(2, 0, what), -2);
        }
    }

    private static void partsOfEachNode() {
        Subject reader = Samples.busy();
        for (int k = 0; k < 13; k++) {
            int i = 0;
            for (int part = 0; part < 13; part++) {
                if (WHOLES[part] == k) {
                    Check.due("part " + i + " of " + k, reader.part(0, k, i), part);
                    i++;
                }
            }
            int[] none = {-1, i, i + 1, -2, 13, Samples.LEAST, Samples.MOST};
            for (int beyond : none) {
                Check.due("part " + beyond + " of " + k, reader.part(0, k, beyond), -1);
            }
        }
        int[] noNodes = {-1, 13, 14, -2, Samples.LEAST, Samples.MOST};
        for (int i = -1; i <= 1; i++) {
            for (int k : noNodes) {
                Check.due("part " + i + " of no node", reader.part(0, k, i), -1);
            }
            for (int tree : Samples.NO_TREES) {
                Check.due("part " + i + " in no tree", reader.part(tree, 0, i), -1);
            }
        }
        Check.due("the last part in tree 1", reader.part(1, 4, 0), 5);
        Check.due("none of its last node", reader.part(1, 5, 0), -1);
        Check.due("none of the node behind it", reader.part(1, 6, 0), -1);
    }

    private static void wholeOfEachNode() {
        Subject reader = Samples.busy();
        for (int k = 0; k < 13; k++) {
            Check.due("whole of " + k, reader.whole(0, k), WHOLES[k]);
        }
        int[] noNodes = {-1, 13, 14, -2, Samples.LEAST, Samples.MOST};
        for (int k : noNodes) {
            Check.due("whole of no node", reader.whole(0, k), -1);
        }
        Check.due("whole of the last node of tree 1", reader.whole(1, 5), 4);
        Check.due("whole of none behind it", reader.whole(1, 6), -1);
        Check.due("whole of the design of tree 1", reader.whole(1, 0), -1);
        for (int tree : Samples.NO_TREES) {
            Check.due("whole in no tree", reader.whole(tree, 1), -1);
        }
    }

    /** Questions, with arguments that there are and that there are not, leave all as it was. */
    private static void askingChangesNothing() {
        Subject reader = Samples.busy();
        String state = Check.state(reader);
        int[] wild = {-2, -1, 0, 1, 2, 5, 13, 8000, Samples.LEAST, Samples.MOST};
        for (int a : wild) {
            for (int b : wild) {
                reader.node(a, b, 0);
                reader.node(0, a, b);
                reader.part(0, a, b);
                reader.whole(a, b);
                reader.spelt(a, b);
            }
            reader.nodes(a);
            reader.written(a);
        }
        Samples.isBusyStill(reader, state, "questions");
    }

    private static void sameButForPlaces() {
        String[] texts = {"", "level A;", "const c=1;", "wire a=b;", "wire a=b+c;", "wire a=b-c;", "wire a=(b+c)+d;", "wire a=b+c+d;",
            "wire a=b+(c+d);", "wire a=f(b);", "wire a=f[1](b);", "wire a=f[1];", "wire a=f[1:1];", "next{}", "next{if(a){}}",
            "next{if(a){}else{}}", "next{case(a){0:{}}}", "next{case(a){0:{}default:{}}}", "level A;level A;", "level A>A;", "const c=0;",
            "const c=2147483647;", "in a[1]:A;", "in a[1]:A|A;", "in a[1]:if(m==1)A else A;", "wire a={b};", "wire a={b,c};",
            "wire a=-b;", "wire a=--b;", "wire a=~b;", "fun f(a[1])[1]=a;", "fun f[a](a[1])[1]=a;", "fun f(a[1],a[1])[1]=a;"};
        for (int i = 0; i < texts.length; i++) {
            for (int k = 0; k < texts.length; k++) {
                Subject reader = new Subject();
                Check.due("read", Check.read(reader, 0, texts[i]), -1);
                Check.due("read", Check.read(reader, 1, "// \n " + texts[k].replace(";", " ;").replace("{", "\n{ ")), -1);
                Check.due("same of " + texts[i] + " and " + texts[k], reader.same(), i == k);
            }
        }
    }

    private static void sameOfBothTrees() {
        Subject reader = new Subject();
        Check.due("both new", reader.same(), true);
        Check.read(reader, 0, "level A;");
        Check.due("one read", reader.same(), false);
        Check.read(reader, 1, "level A;@");
        Check.due("the same items, with a fault behind", reader.same(), true);
        Check.read(reader, 0, "@");
        Check.due("a fault in the first item", reader.same(), false);
        reader.read(1, -1);
        Check.due("none and none", reader.same(), true);
    }
}
