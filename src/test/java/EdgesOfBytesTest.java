/** Promises 2, 3 and 12 at their edges: how many bytes there may be, which n there is, what is gone; what changes nothing. */
public final class EdgesOfBytesTest {
    public static void main(String[] args) {
        feedUpTo8000();
        feedBehindAgain();
        refusedFeedChangesNothing();
        readOfEachN();
        readOf8000();
        readTakesAllBytes();
        refusedReadChangesNothing();
        againOfNothing();
        againInPlaceOfMoreBytes();
        againOf8000();
        Check.end();
    }

    private static void feedUpTo8000() {
        Subject reader = new Subject();
        for (int i = 1; i <= 400; i++) {
            Check.due("feed " + i, Samples.feedBlanks(reader), 20 * i);
        }
        Check.due("feed 401", Samples.feedBlanks(reader), -1);
        Check.due("feed 402", Samples.feedBlanks(reader), -1);
        Check.due("there are no more than 8000", reader.read(0, 8001), -2);
        Check.due("there are 8000", reader.read(0, 8000), -1);
        Check.due("there are none then", reader.read(0, 1), -2);
        Check.due("the first 20 again", Samples.feedBlanks(reader), 20);
    }

    /** Behind up to 7980 bytes there is room for twenty more, behind 7981 there is none. */
    private static void feedBehindAgain() {
        int[] counts = {7978, 7979, 7980, 7981, 7982, 7999, 8000};
        for (int count : counts) {
            boolean fits = count <= 7980;
            Subject reader = Check.reader(Samples.level(count));
            Check.due("write of " + count, reader.write(0, 0), count);
            Check.due("again of " + count, reader.again(), count);
            // next{} and blanks
            int fed = reader.feed(0x6e657874, 0x7b7d2020, Samples.BLANKS, Samples.BLANKS, Samples.BLANKS);
            Check.due("feed behind " + count, fed, fits ? count + 20 : -1);
            Check.due("no byte more than these", reader.read(1, fits ? count + 21 : count + 1), -2);
            Check.due("read of all", reader.read(1, -1), -1);
            Check.due("it was fed, or not", reader.node(1, 0, 4), fits ? 2 : 1);
        }
    }

    private static void refusedFeedChangesNothing() {
        Subject reader = new Subject();
        Check.feed(reader, "level A;" + " ".repeat(7984) + "level B;");
        Check.due("refused", reader.feed(0x40404040, 0x40404040, 0x40404040, 0x40404040, 0x40404040), -1);
        Check.due("refused", reader.feed(0, 0, 0, 0, 0), -1);
        Check.due("no names", reader.names(), 0);
        Check.due("nothing is written", reader.written(0), -1);
        Check.due("trees as they were", reader.same(), true);
        Check.due("read", reader.read(0, -1), -1);
        Check.due("the bytes as they were", Check.tree(reader, 0, 0), "0@-1(1@0(21@6) 1@7992(21=1@7998))");
    }

    private static void readOfEachN() {
        int[] refused = {-2, -3, 21, 22, 40, 8000, 8001, Samples.LEAST, Samples.LEAST + 1, Samples.MOST, Samples.MOST - 1};
        for (int n : refused) {
            Subject reader = new Subject();
            Check.feed(reader, "next{}");
            Check.due("n = " + n, reader.read(0, n), -2);
        }
        for (int n = -1; n <= 20; n++) {
            Subject reader = new Subject();
            Check.feed(reader, "next{}");
            boolean whole = n == -1 || n >= 6;
            Check.due("n = " + n, reader.read(0, n), whole || n == 0 ? -1 : n < 4 ? 0 : n);
            Check.due("items of n = " + n, reader.node(0, 0, 4), whole ? 1 : 0);
        }
        int[] none = {1, 2, 20, -2};
        for (int n : none) {
            Check.due("n = " + n + " of no bytes", new Subject().read(0, n), -2);
        }
        Check.due("n = 0 of no bytes", new Subject().read(0, 0), -1);
        Check.due("n = NONE of no bytes", new Subject().read(0, -1), -1);
    }

    private static void readOf8000() {
        int[] counts = {7999, 8000, -1, 8001};
        int[] wants = {7999, -1, -1, -2};
        for (int i = 0; i < counts.length; i++) {
            Subject reader = new Subject();
            Check.due("feed", Check.feed(reader, Samples.level(8000)), 8000);
            Check.due("n = " + counts[i], reader.read(0, counts[i]), wants[i]);
            Check.due("nodes", reader.nodes(0), wants[i] == -1 ? 3999 : 1);
        }
    }

    /** All bytes are gone, those behind the first n too, whatever the answer; names and the other tree stay. */
    private static void readTakesAllBytes() {
        String[] texts = {"level A;level B;@", "x level A;", "wire a=b", ""};
        for (String text : texts) {
            for (int n = -1; n <= text.length(); n++) {
                readTakesAllBytes(text, n, 0);
                readTakesAllBytes(text, n, 1);
            }
        }
    }

    private static void readTakesAllBytes(String text, int n, int tree) {
        Subject reader = new Subject();
        Check.read(reader, 1 - tree, "wire q=q;");
        Check.feed(reader, text);
        Check.due("not refused", reader.read(tree, n) != -2, true);
        int names = reader.names();
        Check.due("no byte is left", reader.read(tree, 1), -2);
        Check.due("the other tree stays", Check.tree(reader, 1 - tree, 1), "9@0(21@5 21@7)");
        Check.due("nothing is left", reader.read(tree, -1), -1);
        Check.due("it takes the tree's place", reader.nodes(tree), 1);
        Check.due("names stay", reader.names(), names);
        Check.due("feed begins anew", Samples.feedBlanks(reader), 20);
    }

    private static void refusedReadChangesNothing() {
        int[] counts = {-1, 0, 1, 20, 21, -2};
        for (int n : counts) {
            Subject reader = Samples.busy();
            String state = Check.state(reader);
            for (int tree : Samples.NO_TREES) {
                Check.due("read(" + tree + ", " + n + ")", reader.read(tree, n), -2);
            }
            Samples.isBusyStill(reader, state, "read of no tree");
        }
        int[] refused = {21, 22, 8000, 8001, -2, -3, Samples.LEAST, Samples.MOST};
        for (int tree = 0; tree < 2; tree++) {
            Subject reader = Samples.busy();
            String state = Check.state(reader);
            for (int n : refused) {
                Check.due("read(" + tree + ", " + n + ")", reader.read(tree, n), -2);
            }
            Samples.isBusyStill(reader, state, "read of no such n");
        }
    }

    private static void againOfNothing() {
        Subject reader = new Subject();
        Check.due("again of a new object", reader.again(), 0);
        Check.feed(reader, "level A;level B;level C;");
        Check.due("again, nothing was written", reader.again(), 0);
        Check.due("what was fed is gone", reader.read(0, 1), -2);
        Check.due("nothing is there", reader.read(0, -1), -1);
        Check.due("nothing was read", reader.nodes(0), 1);
        Check.feed(reader, "level A;");
        Check.due("an empty design is written", reader.write(0, 0), 0);
        Check.due("again of it", reader.again(), 0);
        Check.due("what was fed is gone", reader.read(0, 1), -2);
        Check.due("feed begins anew", Samples.feedBlanks(reader), 20);
        Check.due("again once more", reader.again(), 0);
        Check.due("feed begins anew", Samples.feedBlanks(reader), 20);
    }

    /** What was written takes the place of less bytes, of more, and of none; nothing of those is left. */
    private static void againInPlaceOfMoreBytes() {
        String[] fed = {"", "level Q;", "x".repeat(100)};
        for (String text : fed) {
            Subject reader = Check.reader("wire a=( b + c );level D;");
            Check.due("write", reader.write(0, 0), 19);
            Check.feed(reader, text);
            Check.due("again", reader.again(), 19);
            Check.due("no byte more", reader.read(1, 20), -2);
            Check.due("as many as were written", reader.read(1, 19), -1);
            Check.due("same", reader.same(), true);
            Check.due("places are those of the new text", reader.node(1, 3, 1), 7);
            Check.due("what was written stays", Check.written(reader), "wire a=b+c;level D;");
        }
    }

    private static void againOf8000() {
        Subject reader = Check.reader(Samples.level(8000));
        Check.due("write", reader.write(0, 0), 8000);
        Check.due("again", reader.again(), 8000);
        Check.due("no byte more fits", Samples.feedBlanks(reader), -1);
        Check.due("again, in place of itself", reader.again(), 8000);
        Check.due("read(1, 8001)", reader.read(1, 8001), -2);
        Check.due("read(1, 8000)", reader.read(1, 8000), -1);
        Check.due("same", reader.same(), true);
        Check.due("it is gone", reader.read(1, 1), -2);
        Check.due("a part", reader.write(0, 2), 1);
        Check.due("again of that", reader.again(), 1);
        Check.due("none of the older bytes is left", reader.read(0, 2), -2);
        Check.due("read", reader.read(0, 1), 0);
    }
}
