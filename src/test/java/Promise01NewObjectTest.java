/** Promise 1: two trees of a DESIGN without items; nothing fed, written or named. */
public final class Promise01NewObjectTest {
    public static void main(String[] args) {
        Check.due("NONE", DesignReader.NONE, -1);
        for (int tree = 0; tree < 2; tree++) {
            Subject fresh = new Subject();
            Check.due("nodes", fresh.nodes(tree), 1);
            Check.due("kind", fresh.node(tree, 0, 0), 0);
            Check.due("place", fresh.node(tree, 0, 1), -1);
            Check.due("value", fresh.node(tree, 0, 2), 0);
            Check.due("size", fresh.node(tree, 0, 3), 1);
            Check.due("parts", fresh.node(tree, 0, 4), 0);
            Check.due("part", fresh.part(tree, 0, 0), -1);
            Check.due("whole", fresh.whole(tree, 0), -1);
            Check.due("node 1", fresh.node(tree, 1, 0), -2);
            Check.due("write", fresh.write(tree, 0), 0);
        }
        Subject fresh = new Subject();
        Check.due("names", fresh.names(), 0);
        Check.due("spelt", fresh.spelt(0, 0), -1);
        Check.due("written", fresh.written(0), -1);
        Check.due("same", fresh.same(), true);
        Check.due("again", fresh.again(), 0);
        Check.due("read(0, 1), nothing fed", fresh.read(0, 1), -2);
        Check.due("read(0, 0)", fresh.read(0, 0), -1);
        Check.due("read(1, NONE)", fresh.read(1, -1), -1);
        Check.due("first feed", fresh.feed(0, 0, 0, 0, 0), 20);
        objectsAreApart();
        Check.end();
    }

    private static void objectsAreApart() {
        Subject one = Check.reader("wire a=b;");
        one.write(0, 0);
        Subject other = new Subject();
        Check.due("nodes of another", other.nodes(0), 1);
        Check.due("names of another", other.names(), 0);
        Check.due("written of another", other.written(0), -1);
        Check.due("nodes of the first", one.nodes(0), 4);
    }
}
