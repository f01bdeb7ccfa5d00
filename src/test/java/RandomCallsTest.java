/** Calls made by dice, with good and wild arguments, in any order: none throws, and none breaks the state. */
public final class RandomCallsTest {
    private static final String[] TOKENS = {"(", ")", "{", "}", "[", "]", ",", ";", ":", "?", "=", "<", "<=", ">", ">=",
        "<<", ">>", "==", "!=", "+", "-", "*", "/", "%", "&", "|", "^", "~", "!", "level ", "const ", "fun ", "mode ",
        "in ", "reg ", "wire ", "out ", "next", "if", " else ", "case", "default", "num", "zext", "sext", "any", "all",
        "odd", "a", "b", "c", "0", "1", "2", " ", "\n", "//", "@", "a[1]", "(a)", "wire a=b;", "level A;", "{a<=b;}"};

    public static void main(String[] args) {
        Dice dice = new Dice(7);
        for (int run = 0; run < 600; run++) {
            Subject reader = new Subject();
            for (int call = 0; call < 400 && reader.changes() < 300; call++) {
                call(reader, dice, "run " + run + ", call " + call);
            }
            sound(reader, 0);
            sound(reader, 1);
        }
        // names and bytes without end: what is answered is free by then, but nothing may be thrown
        for (int run = 0; run < 10; run++) {
            Subject reader = Subject.withoutEnd();
            for (int call = 0; call < 12000; call++) {
                call(reader, dice, "endless run " + run + ", call " + call);
            }
        }
        Check.end();
    }

    private static void call(Subject reader, Dice dice, String which) {
        try {
            call(reader, dice);
        } catch (RuntimeException e) {
            Check.fail(which + " threw " + e);
        }
    }

    private static int wild(Dice dice, int usual) {
        switch (dice.below(12)) {
            case 0: return -1 - dice.below(3);
            case 1: return Integer.MIN_VALUE + dice.below(2);
            case 2: return Integer.MAX_VALUE - dice.below(2);
            case 3: return 7990 + dice.below(5000);
            default: return dice.below(usual);
        }
    }

    private static void call(Subject reader, Dice dice) {
        int tree = dice.oneIn(10) ? wild(dice, 3) : dice.below(2);
        int k = wild(dice, reader.nodes(dice.below(2)) + 2);
        switch (dice.below(12)) {
            case 0: reader.read(tree, dice.oneIn(2) ? -1 : wild(dice, 200)); break;
            case 1: reader.nodes(tree); break;
            case 2: reader.node(tree, k, wild(dice, 6)); break;
            case 3: reader.part(tree, k, wild(dice, 5)); break;
            case 4: reader.whole(tree, k); break;
            case 5: reader.spelt(wild(dice, reader.names() + 2), wild(dice, 5)); break;
            case 6: reader.write(tree, k); break;
            case 7: reader.written(wild(dice, 200)); break;
            case 8: reader.again(); break;
            case 9: reader.same(); break;
            case 10: reader.feed(wild(dice, 1 << 30), wild(dice, 1 << 30), wild(dice, 1 << 30), 0, -1); break;
            default: Check.feed(reader, soup(dice)); break;
        }
    }

    private static String soup(Dice dice) {
        StringBuilder out = new StringBuilder();
        for (int more = dice.below(60); more > 0; more--) {
            out.append(dice.oneIn(9) ? "n" + dice.below(100000) : dice.pick(TOKENS));
        }
        return dice.oneIn(3) ? new RandomDesign(dice).text : out.toString();
    }

    /** Each node lies in its whole as that part which it is, and sizes add up. */
    private static void sound(Subject reader, int tree) {
        for (int k = 0; k < reader.nodes(tree); k++) {
            int size = 1;
            for (int i = 0; i < reader.node(tree, k, 4); i++) {
                int part = reader.part(tree, k, i);
                Check.due("place of part", part, k + size);
                Check.due("whole of part", reader.whole(tree, part), k);
                size += reader.node(tree, part, 3);
            }
            Check.due("size", reader.node(tree, k, 3), size);
            if (reader.node(tree, k, 0) == 21) {
                Check.due("a name has a number", reader.spelt(reader.node(tree, k, 2), 0) > 0, true);
            }
        }
    }
}
