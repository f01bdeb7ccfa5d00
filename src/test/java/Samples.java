/** What the tests of edges share: numbers beyond all edges, a reader in the midst of its use, and long texts. */
final class Samples {
    static final int BLANKS = 0x20202020;
    static final int LEAST = Integer.MIN_VALUE;
    static final int MOST = Integer.MAX_VALUE;
    static final int[] NO_TREES = {-1, 2, -2, 3, 8, 31, 32, 256, LEAST, LEAST + 1, MOST, MOST - 1};

    private Samples() {
    }

    /** A reader with 13 nodes in tree 0, 6 in tree 1, 7 names, 9 bytes written last, and 20 bytes fed. */
    static Subject busy() {
        Subject reader = Check.reader("wire a=b+c*(d|e);");
        Check.due("read", Check.read(reader, 1, "level X>Y;next{}"), -1);
        Check.due("write", reader.write(0, 3), 9);
        Check.due("feed", Check.feed(reader, "level Fed;"), 20);
        return reader;
    }

    /** A busy reader has the state that it had, and its bytes; it reads these. */
    static void isBusyStill(Subject reader, String state, String what) {
        Check.due("state behind " + what, Check.state(reader), state);
        Check.due("no byte more behind " + what, reader.read(0, 21), -2);
        Check.due("no byte less behind " + what, reader.read(0, 20), -1);
        Check.due("the same bytes behind " + what, Check.write(reader, 0, 0), "level Fed;");
    }

    static int feedBlanks(Subject reader) {
        return reader.feed(BLANKS, BLANKS, BLANKS, BLANKS, BLANKS);
    }

    /** An item of so many bytes, ten at least, that is written as it stands. */
    static String level(int bytes) {
        return "level A>" + (bytes % 2 == 0 ? "B" : "BB") + ",C".repeat((bytes - 10) / 2) + ";";
    }
}
