/** Promises 4 to 7: nodes, node, part, whole: ordinary ones and those that there are none of. */
public final class Promise04To07NodesTest {
    private static final int[] NO_TREES = {-1, 2, 3, 100, Integer.MIN_VALUE, Integer.MAX_VALUE};

    public static void main(String[] args) {
        Subject reader = Check.reader("level A>B,C;wire w=a+b*c[1];next{if(w){a<=b;}}");
        Check.due("read", Check.read(reader, 1, "level A;"), -1);
        // 0 1(2 3 4) 5(6 7(8 9(10(11 12(13(14 15)))))) 16(17(18(19 20(21(22 23)))))
        int[] wholes = {-1, 0, 1, 1, 1, 0, 5, 5, 7, 7, 9, 10, 10, 12, 13, 13, 0, 16, 17, 18, 18, 20, 21, 21};
        int[] sizes = {24, 4, 1, 1, 1, 11, 1, 9, 1, 7, 6, 1, 4, 3, 1, 1, 8, 7, 6, 1, 4, 3, 1, 1};
        int[] parts = {3, 3, 0, 0, 0, 2, 0, 2, 0, 1, 2, 0, 1, 2, 0, 0, 1, 1, 2, 0, 1, 2, 0, 0};
        int[] kinds = {0, 1, 21, 21, 21, 9, 21, 22, 21, 35, 22, 21, 37, 44, 21, 20, 11, 12, 14, 21, 12, 13, 21, 21};
        Check.due("nodes(0)", reader.nodes(0), 24);
        Check.due("nodes(1)", reader.nodes(1), 3);
        for (int k = 0; k < 24; k++) {
            Check.due("kind of " + k, reader.node(0, k, 0), kinds[k]);
            Check.due("size of " + k, reader.node(0, k, 3), sizes[k]);
            Check.due("parts of " + k, reader.node(0, k, 4), parts[k]);
            Check.due("whole of " + k, reader.whole(0, k), wholes[k]);
            partsOf(reader, k, wholes, parts[k]);
        }
        Check.due("value", reader.node(0, 15, 2), 1);
        Check.due("place", reader.node(0, 15, 1), 25);
        noSuch(reader);
        Check.due("nodes(0) at the end", reader.nodes(0), 24);
        Check.end();
    }

    private static void partsOf(Subject reader, int k, int[] wholes, int count) {
        int i = 0;
        for (int other = 0; other < wholes.length; other++) {
            if (wholes[other] == k) {
                Check.due("part " + i + " of " + k, reader.part(0, k, i), other);
                i++;
            }
        }
        Check.due("count of parts", i, count);
        int[] none = {count, count + 1, -1, -2, 24, Integer.MAX_VALUE, Integer.MIN_VALUE};
        for (int index : none) {
            Check.due("part " + index + " of " + k, reader.part(0, k, index), -1);
        }
    }

    private static void noSuch(Subject reader) {
        for (int tree : NO_TREES) {
            Check.due("nodes(" + tree + ")", reader.nodes(tree), 0);
            Check.due("node of no tree", reader.node(tree, 0, 0), -2);
            Check.due("part of no tree", reader.part(tree, 0, 0), -1);
            Check.due("whole of no tree", reader.whole(tree, 1), -1);
        }
        int[] noNodes = {-1, -2, 24, 25, 12009, 12010, 12011, 20000, Integer.MIN_VALUE, Integer.MAX_VALUE};
        for (int k : noNodes) {
            for (int what = -1; what <= 5; what++) {
                Check.due("node(0, " + k + ", " + what + ")", reader.node(0, k, what), -2);
            }
            Check.due("part of no node", reader.part(0, k, 0), -1);
            Check.due("whole of no node", reader.whole(0, k), -1);
        }
        Check.due("a node of the other tree", reader.node(1, 3, 0), -2);
        Check.due("whole in the other tree", reader.whole(1, 3), -1);
        Check.due("part in the other tree", reader.part(1, 0, 1), -1);
        int[] noWhats = {-1, -2, 5, 6, Integer.MIN_VALUE, Integer.MAX_VALUE};
        for (int what : noWhats) {
            Check.due("node(0, 0, " + what + ")", reader.node(0, 0, what), -2);
        }
    }
}
