/** Promises 8 to 11 at their edges: each name, byte and node that there is, and those next to them; what changes nothing. */
public final class EdgesOfWritingTest {
    public static void main(String[] args) {
        namesFromNoneOn();
        speltOfEachByte();
        writeOfEachNode();
        writeOf8000();
        refusedWriteChangesNothing();
        writtenOfEachByte();
        writtenOfNothing();
        Check.end();
    }

    private static void namesFromNoneOn() {
        Subject reader = new Subject();
        Check.due("names of a new object", reader.names(), 0);
        Check.feed(reader, "level A;");
        Check.due("what is fed is not read", reader.names(), 0);
        reader.read(0, 0);
        Check.due("nor is what is behind n", reader.names(), 0);
        Check.read(reader, 0, "next{}");
        Check.due("no name in it", reader.names(), 0);
        Check.read(reader, 0, "level A");
        Check.due("a fault in the first item", reader.names(), 0);
        Check.read(reader, 0, "level A;");
        Check.due("the first one", reader.names(), 1);
        Check.read(reader, 1, "level A;level A>A;");
        Check.due("the same one", reader.names(), 1);
        Check.read(reader, 1, "level a;");
        Check.due("another one", reader.names(), 2);
        reader.read(0, -1);
        reader.read(1, -1);
        Check.due("trees without items", reader.names(), 2);
    }

    private static void speltOfEachByte() {
        String longest = "abcdefghijklmnopqrstuvwxyz_012";
        Subject reader = Check.reader("level q;level " + longest + ";level rs;");
        String[] names = {"q", longest, "rs"};
        for (int name = 0; name < names.length; name++) {
            int length = names[name].length();
            for (int i = 0; i < length; i++) {
                Check.due("byte " + i + " of " + name, reader.spelt(name, i), names[name].charAt(i));
            }
            int[] none = {-1, length, length + 1, -2, 30, 31, Samples.LEAST, Samples.MOST};
            for (int i : none) {
                Check.due("byte " + i + " of " + name, reader.spelt(name, i), -1);
            }
        }
        int[] noNames = {-1, 3, 4, -2, 5120, 10240, Samples.LEAST, Samples.MOST};
        for (int name : noNames) {
            for (int i = -1; i <= 2; i++) {
                Check.due("byte " + i + " of no name", reader.spelt(name, i), -1);
            }
        }
        Check.due("spelt of a new object", new Subject().spelt(0, 0), -1);
        Check.due("a name of an item with a fault", Check.read(reader, 0, "level zz"), 8);
        Check.due("is none", reader.spelt(3, 0), -1);
    }

    private static void writeOfEachNode() {
        Subject reader = Samples.busy();
        String[] wants = {"wire a=b+c*(d|e);", "wire a=b+c*(d|e);", "a", "b+c*(d|e)", "b", "+c*(d|e)", "c*(d|e)", "c", "*(d|e)", "d|e", "d",
            "|e", "e"};
        for (int k = 0; k < wants.length; k++) {
            Check.due("write of " + k, Check.write(reader, 0, k), wants[k]);
        }
        Check.due("none behind the last", reader.write(0, 13), -1);
        Check.due("none before the first", reader.write(0, -1), -1);
        String[] others = {"level X>Y;next{}", "level X>Y;", "X", "Y", "next{}", "{}"};
        for (int k = 0; k < others.length; k++) {
            Check.due("write of " + k + " in tree 1", Check.write(reader, 1, k), others[k]);
        }
        Check.due("none behind the last in tree 1", reader.write(1, 6), -1);
    }

    private static void writeOf8000() {
        int[] counts = {7998, 7999, 8000};
        for (int count : counts) {
            Subject reader = Check.reader(Samples.level(count));
            Check.due("write of " + count, reader.write(0, 0), count);
            Check.due("the first byte", reader.written(0), 'l');
            Check.due("the last byte but one", reader.written(count - 2), 'C');
            Check.due("the last byte", reader.written(count - 1), ';');
            Check.due("no byte behind", reader.written(count), -1);
            Check.due("the item has as many", reader.write(0, 1), count);
            Check.due("a part of it has less", reader.write(0, 2), 1);
            Check.due("and takes its place", Check.written(reader), "A");
        }
    }

    private static void refusedWriteChangesNothing() {
        Subject reader = Samples.busy();
        String state = Check.state(reader);
        int[] noNodes = {-1, 13, 14, -2, 12010, 12011, Samples.LEAST, Samples.MOST};
        for (int k : noNodes) {
            Check.due("write(0, " + k + ")", reader.write(0, k), -1);
        }
        Check.due("write(1, 6)", reader.write(1, 6), -1);
        for (int tree : Samples.NO_TREES) {
            Check.due("write(" + tree + ", 0)", reader.write(tree, 0), -1);
        }
        Check.due("what was written last is so still", Check.written(reader), "b+c*(d|e)");
        Samples.isBusyStill(reader, state, "write of no node");
        reader = Samples.busy();
        Check.due("refused", reader.write(0, 13), -1);
        Check.due("again is what was written before", reader.again(), 9);
    }

    private static void writtenOfEachByte() {
        Subject reader = Samples.busy();
        String text = "b+c*(d|e)";
        for (int i = 0; i < text.length(); i++) {
            Check.due("written(" + i + ")", reader.written(i), text.charAt(i));
        }
        int[] none = {-1, 9, 10, -2, 7999, 8000, 8001, Samples.LEAST, Samples.MOST};
        for (int i : none) {
            Check.due("written(" + i + ")", reader.written(i), -1);
        }
        Check.due("a shorter one", reader.write(0, 4), 1);
        Check.due("its last byte", reader.written(0), 'b');
        Check.due("none of the longer one is left", reader.written(1), -1);
        reader.read(0, 0);
        Check.due("read leaves it", reader.written(0), 'b');
        reader.again();
        Check.due("again leaves it", reader.written(0), 'b');
    }

    private static void writtenOfNothing() {
        for (int i = -1; i <= 1; i++) {
            Check.due("written(" + i + ") of a new object", new Subject().written(i), -1);
        }
        Subject reader = new Subject();
        Check.due("refused, and nothing was written", reader.write(0, 1), -1);
        Check.due("nothing is written then", reader.written(0), -1);
        Check.due("nothing again", reader.again(), 0);
        reader = Samples.busy();
        reader.read(0, 0);
        Check.due("a design without items is 0 bytes", reader.write(0, 0), 0);
        Check.due("none of what was written before is left", reader.written(0), -1);
    }
}
