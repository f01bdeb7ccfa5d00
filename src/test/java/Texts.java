/** Texts by dice: designs, designs with a fault, deep ones, and rows of tokens. */
final class Texts {
    private static final String[] BITS = {"(", ")", "{", "}", "[", "]", ",", ";", ":", "?", "=", "<", "<=", ">", ">=", "<<", ">>", "==",
        "!=", "+", "-", "*", "/", "%", "&", "|", "^", "~", "!", " level ", " const ", " fun ", " mode ", " in ", " reg ", " wire ",
        " out ", " next ", " if ", " else ", " case ", " default ", " num ", " zext ", " sext ", " any ", " all ", " odd ", "a", "b",
        "c", "0", "1", "2", " ", "\n", "//", "@", "\u00e9", "a[1]", "(a)", "wire a=b;", "level A;", "{a<=b;}", "1x", "00",
        "2147483648", "2147483647", "abcdefghijklmnopqrstuvwxyz_0123", "abcdefghijklmnopqrstuvwxyz_012"};
    // each with what stands before and behind what is repeated, that which is, and its end
    private static final String[][] DEEP = {
        {"wire w=", "(", "a", ")", ";"}, {"wire w=", "-", "a", "", ";"}, {"wire w=", "~!", "a", "", ";"}, {"wire w=", "{a,", "b", "}", ";"},
        {"wire w=", "f(", "a", ")", ";"}, {"wire w=", "f[2]((", "a", "))", ";"}, {"wire w=", "a?b:", "c", "", ";"}, {"wire w=", "a?", "b", ":c", ";"},
        {"wire w=", "a|b*(", "c", ")", ";"}, {"wire w=", "(", "a", "|b)", ";"}, {"wire w=", "(", "a", ")?b:c", ";"}, {"wire w=", "-(", "a", "+b)*c", ";"},
        {"const c=", "(", "1", ")", ";"}, {"const c=", "1+(", "2", ")*3", ";"}, {"wire w=a[", "(", "1", ")", "];"}, {"wire w=zext(1,", "odd(", "a", ")", ");"},
        {"in a[1]:", "if(m==1)L else ", "L", "", ";"}, {"in a[1]:", "if(m==1)", "L", " else L", ";"}, {"next{", "if(a){", "a<=b;", "}", "}"},
        {"next{", "if(a){}else{", "", "}", "}"}, {"next{", "case(a){(1):{", "", "}}", "}"}, {"next{", "case(a){1:{}default:{", "a<=-b;", "}}", "}"}};

    private Texts() {
    }

    static String any(Dice dice) {
        switch (dice.below(8)) {
            case 0: return soup(dice);
            case 1: return deep(dice);
            case 2: case 3: return faulty(dice, design(dice));
            default: return design(dice);
        }
    }

    /** A design that is not too long for a model that is slow. */
    static String design(Dice dice) {
        String text = new RandomDesign(dice).text;
        while (text.length() > 600) {
            text = new RandomDesign(dice).text;
        }
        return text;
    }

    /** A text with one place changed. */
    static String faulty(Dice dice, String text) {
        int at = dice.below(text.length() + 1);
        return text.substring(0, at) + (dice.oneIn(4) ? "" : dice.pick(BITS)) + text.substring(Math.min(text.length(), at + dice.below(3)));
    }

    static String deep(Dice dice) {
        String[] form = DEEP[dice.below(DEEP.length)];
        // near the deepest that may be, for what lies one or two deeper each time
        int times = dice.oneIn(3) ? dice.below(70) : (dice.oneIn(3) ? 27 : 57) + dice.below(5);
        String[] other = DEEP[dice.below(10)];
        String inside = dice.oneIn(3) && form[0].equals("wire w=") ? other[1] + other[2] + other[3] : form[2];
        return form[0] + form[1].repeat(times) + inside + form[3].repeat(times) + form[4] + (dice.oneIn(3) ? "level A;" : "");
    }

    static String soup(Dice dice) {
        StringBuilder out = new StringBuilder();
        for (int more = dice.below(25); more > 0; more--) {
            out.append(dice.oneIn(9) ? "n" + dice.below(1000) : dice.pick(BITS));
        }
        return out.toString();
    }
}
