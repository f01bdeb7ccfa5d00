/** All promises: runs of up to 512 calls by dice on a new object, each answer against that of the Model. */
public final class ModelCallsTest {
    private static final int MOST_CALLS = 512;
    private static final int RUNS = 150;

    private final Dice dice;
    private final DesignReader reader = new DesignReader();
    private final Model model = new Model();
    private final StringBuilder run = new StringBuilder();
    private int calls;
    private int fed;

    private ModelCallsTest(Dice dice) {
        this.dice = dice;
    }

    public static void main(String[] args) {
        Dice dice = new Dice(args.length > 0 ? Long.parseLong(args[0]) : 13);
        for (int i = 0; i < (args.length > 1 ? Integer.parseInt(args[1]) : RUNS); i++) {
            new ModelCallsTest(dice).calls();
        }
        Check.end();
    }

    private void due(String call, int got, int want) {
        calls++;
        Check.due("no more than 512 calls", calls <= MOST_CALLS, true);
        run.append(call).append(" -> ").append(got).append('\n');
        if (got != want) {
            Check.fail(run + "due is " + want);
        }
    }

    private void calls() {
        while (calls < MOST_CALLS) {
            switch (dice.below(9)) {
                case 0: case 1: text(); break;
                case 2: again(); break;
                case 3: if (dice.oneIn(3)) { readOf(wild(2), wild(fed + 1)); } break;
                case 4: feed(wild(9), wild(9), wild(9), wild(9), wild(9)); break;
                default: ask(2 + dice.below(20)); break;
            }
        }
    }

    /** A number near 0 .. usual, or a wild one. */
    private int wild(int usual) {
        switch (dice.below(10)) {
            case 0: return -1 - dice.below(3);
            case 1: return Integer.MIN_VALUE + dice.below(2);
            case 2: return Integer.MAX_VALUE - dice.below(2);
            default: return dice.below(usual + 1);
        }
    }

    private int tree() {
        return dice.oneIn(25) ? wild(3) : dice.below(2);
    }

    private void feed(int a, int b, int c, int d, int e) {
        int count = model.feed(a, b, c, d, e);
        due("feed(" + a + ", " + b + ", " + c + ", " + d + ", " + e + ")", reader.feed(a, b, c, d, e), count);
        fed = count >= 0 ? count : fed;
    }

    private void readOf(int tree, int n) {
        int fault = model.read(tree, n);
        due("read(" + tree + ", " + n + ")", reader.read(tree, n), fault);
        fed = fault == -2 ? fed : 0;
    }

    private void again() {
        fed = model.again();
        due("again()", reader.again(), fed);
        if (dice.oneIn(3)) {
            text();
        } else if (dice.oneIn(2) && calls < MOST_CALLS) {
            readOf(dice.below(2), dice.oneIn(3) ? dice.below(fed + 1) : -1);
        }
    }

    /** Feeds a text and reads it, or a part of it. */
    private void text() {
        String text = Texts.any(dice);
        int before = fed;
        for (int from = 0; from < text.length() && calls < MOST_CALLS; from += 20) {
            feed(Check.four(text, from), Check.four(text, from + 4), Check.four(text, from + 8), Check.four(text, from + 12),
                Check.four(text, from + 16));
        }
        int n = dice.oneIn(3) ? -1 : dice.oneIn(3) ? dice.below(fed + 1) : Math.min(fed, before + text.length());
        if (!dice.oneIn(8) && calls < MOST_CALLS) {
            readOf(dice.below(2), n);
        }
    }

    /** Asks so many questions, most of them of what there is. */
    private void ask(int questions) {
        for (int i = 0; i < questions && calls < MOST_CALLS; i++) {
            int tree = tree();
            int k = wild(model.nodes(tree));
            int small = dice.oneIn(6) ? wild(6) : dice.below(5);
            switch (dice.below(10)) {
                case 0: due("nodes(" + tree + ")", reader.nodes(tree), model.nodes(tree)); break;
                case 1: due("names()", reader.names(), model.names()); break;
                case 2:
                    int name = wild(model.names());
                    due("spelt(" + name + ", " + small + ")", reader.spelt(name, small), model.spelt(name, small));
                    break;
                case 3:
                    int at = wild(60);
                    due("written(" + at + ")", reader.written(at), model.written(at));
                    break;
                case 4: due("same()", reader.same() ? 1 : 0, model.same() ? 1 : 0); break;
                case 5: due("part(" + tree + ", " + k + ", " + small + ")", reader.part(tree, k, small), model.part(tree, k, small)); break;
                case 6: due("whole(" + tree + ", " + k + ")", reader.whole(tree, k), model.whole(tree, k)); break;
                case 7: due("write(" + tree + ", " + k + ")", reader.write(tree, k), model.write(tree, k)); break;
                default: due("node(" + tree + ", " + k + ", " + small + ")", reader.node(tree, k, small), model.node(tree, k, small)); break;
            }
        }
    }
}
