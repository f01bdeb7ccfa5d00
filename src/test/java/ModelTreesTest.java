/** Promises 3 to 10 and 13: texts by dice, and all that can be asked of their trees, against the Model. */
public final class ModelTreesTest {
    private static final int TEXTS = 600;
    private static final int MOST_NODES_WRITTEN = 150;

    public static void main(String[] args) {
        Dice dice = new Dice(args.length > 0 ? Long.parseLong(args[0]) : 4);
        for (int i = 0; i < (args.length > 1 ? Integer.parseInt(args[1]) : TEXTS); i++) {
            compare(Texts.any(dice), Texts.any(dice));
        }
        Check.end();
    }

    /** Reads two texts, one into each tree. */
    private static void compare(String one, String other) {
        Subject reader = new Subject();
        Model model = new Model();
        read(reader, model, 0, one);
        read(reader, model, 1, other);
        Check.due("same of " + one + " and " + other, reader.same(), model.same());
        names(reader, model, one + " and " + other);
        nodes(reader, model, 0, one);
        nodes(reader, model, 1, other);
        write(reader, model, 0, one);
        reader.write(0, 0);
        model.write(0, 0);
        Check.due("again of " + one, reader.again(), model.again());
        Check.due("what is written of " + one + " is read", reader.read(1, -1), model.read(1, -1));
        Check.due("as the same", reader.same(), true);
        Check.due("as the model says", model.same(), true);
    }

    private static void read(Subject reader, Model model, int tree, String text) {
        for (int from = 0; from < text.length(); from += 20) {
            model.feed(Check.four(text, from), Check.four(text, from + 4), Check.four(text, from + 8), Check.four(text, from + 12),
                Check.four(text, from + 16));
        }
        Check.due("read of " + text, Check.read(reader, tree, text), model.read(tree, text.length()));
    }

    private static void names(Subject reader, Model model, String texts) {
        Check.due("names of " + texts, reader.names(), model.names());
        for (int name = 0; name < model.names(); name++) {
            for (int i = 0; i <= 30; i++) {
                Check.due("byte " + i + " of name " + name + " of " + texts, reader.spelt(name, i), model.spelt(name, i));
            }
        }
    }

    private static void nodes(Subject reader, Model model, int tree, String text) {
        Check.due("nodes of " + text, reader.nodes(tree), model.nodes(tree));
        for (int k = 0; k < model.nodes(tree); k++) {
            for (int what = 0; what < 5; what++) {
                Check.due("node(" + k + ", " + what + ") of " + text, reader.node(tree, k, what), model.node(tree, k, what));
            }
            Check.due("whole(" + k + ") of " + text, reader.whole(tree, k), model.whole(tree, k));
            for (int i = 0; i <= model.node(tree, k, 4); i++) {
                Check.due("part(" + k + ", " + i + ") of " + text, reader.part(tree, k, i), model.part(tree, k, i));
            }
        }
    }

    private static void write(Subject reader, Model model, int tree, String text) {
        for (int k = 0; k < model.nodes(tree) && k < MOST_NODES_WRITTEN; k++) {
            int count = model.write(tree, k);
            Check.due("write(" + k + ") of " + text, reader.write(tree, k), count);
            for (int i = 0; i <= count; i++) {
                Check.due("byte " + i + " of write(" + k + ") of " + text, reader.written(i), model.written(i));
            }
        }
    }
}
