/** Designs made by dice, with brackets that are not needed: their kinds, what is written, and that read again. */
public final class RandomDesignsTest {
    public static void main(String[] args) {
        Dice dice = new Dice(20261115);
        int tooLong = 0;
        for (int i = 0; i < 4000; i++) {
            RandomDesign design = new RandomDesign(dice);
            if (design.text.length() > 8000) {
                tooLong++;
                continue;
            }
            check(design);
            faults(design.text, dice);
        }
        Check.due("most fit", tooLong < 200, true);
        Check.end();
    }

    private static void check(RandomDesign design) {
        Subject reader = Check.reader(design.text);
        Check.due("nodes of " + design.text, reader.nodes(0), design.kinds.size());
        for (int k = 0; k < reader.nodes(0) && k < design.kinds.size(); k++) {
            Check.due("kind " + k + " of " + design.text, reader.node(0, k, 0), design.kinds.get(k));
        }
        Check.due("written of " + design.text, Check.write(reader, 0, 0), design.shortest);
        reader.again();
        Check.due("read of " + design.shortest, reader.read(1, -1), -1);
        Check.due("same of " + design.text, reader.same(), true);
    }

    /** What stands before a fault can be gone on with: without what follows, the fault is the end. */
    private static void faults(String text, Dice dice) {
        if (text.isEmpty()) {
            return;
        }
        int at = dice.below(text.length());
        String bad = text.substring(0, at)
            + dice.pick("", ")", "(", ";", "}", "{", "]", "[", ",", ":", "=", "a", "1", "if", "else", "@", "-", "<")
            + text.substring(at + dice.below(2));
        if (bad.length() > 8000) {
            return;
        }
        Subject reader = new Subject();
        int fault = Check.read(reader, 0, bad);
        Check.due("fault of " + bad, fault >= -1 && fault <= bad.length(), true);
        if (fault >= 0) {
            int before = Check.read(reader, 1, bad.substring(0, fault));
            Check.due("goes on before " + fault + " of " + bad, before == -1 || before == fault, true);
            Check.due("the items before it", reader.same(), true);
        }
    }
}
