import java.util.ArrayList;
import java.util.List;

/** Items with names made by dice, some with a fault, in several texts: which names count, and their numbers. */
public final class RandomNamesTest {
    private static final String LETTERS = "ABCDEFGHIJKLMNOPQRSTUVWXYZabcdefghijklmnopqrstuvwxyz_";
    private static final String LATER = LETTERS + "0123456789";

    public static void main(String[] args) {
        Dice dice = new Dice(20261116);
        for (int run = 0; run < 300; run++) {
            Subject reader = new Subject();
            List<String> known = new ArrayList<>();
            String[] pool = pool(dice, 1 + dice.below(120));
            for (int text = 0; text < 6 && reader.changes() < 300; text++) {
                read(reader, dice, pool, known, dice.below(2));
            }
            Check.due("names", Check.allNames(reader), known.isEmpty() ? "" : String.join(" ", known) + " ");
        }
        Check.end();
    }

    /** Names, many of which differ in one byte alone, or in their length. */
    private static String[] pool(Dice dice, int count) {
        String[] names = new String[count];
        for (int i = 0; i < count; i++) {
            String before = i > 0 && dice.oneIn(2) ? names[dice.below(i)] : "" + LETTERS.charAt(dice.below(LETTERS.length()));
            String name = before;
            for (int more = dice.below(4); more > 0 && name.length() < 30; more--) {
                name += LATER.charAt(dice.below(LATER.length()));
            }
            names[i] = isWord(name) ? before + "_" : name;
        }
        return names;
    }

    private static boolean isWord(String name) {
        return " level const fun mode in reg wire out next if else case default num zext sext any all odd ".contains(" " + name + " ");
    }

    /** Reads a text of some items; one of them may have a fault, and what stands behind that is not read. */
    private static void read(Subject reader, Dice dice, String[] pool, List<String> known, int tree) {
        StringBuilder text = new StringBuilder();
        List<Integer> values = new ArrayList<>();
        int items = dice.below(12);
        int faulty = dice.oneIn(2) ? dice.below(12) : items;
        for (int item = 0; item < items; item++) {
            text.append(dice.pick("level ", "level\n", " level "));
            int names = 1 + dice.below(6);
            for (int i = 0; i < names; i++) {
                String name = pool[dice.below(pool.length)];
                text.append(i == 0 ? "" : i == 1 ? ">" : ",").append(name);
                if (item < faulty && !known.contains(name)) {
                    known.add(name);
                }
                if (item < faulty) {
                    values.add(known.indexOf(name));
                }
            }
            text.append(item == faulty ? dice.pick("", "=;", ",;", " x;", "@;", "|y;") : ";");
        }
        int fault = Check.read(reader, tree, text.toString());
        Check.due("a fault in " + text, fault >= 0, faulty < items);
        Check.due("names of " + text, reader.names(), known.size());
        int found = 0;
        for (int k = 0; k < reader.nodes(tree); k++) {
            if (reader.node(tree, k, 0) == 21) {
                Check.due("number of a name of " + text, reader.node(tree, k, 2), found < values.size() ? values.get(found) : -1);
                found++;
            }
        }
        Check.due("names in the tree of " + text, found, values.size());
    }
}
