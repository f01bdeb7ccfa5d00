import java.util.ArrayList;
import java.util.List;

/** A design made by dice: its tokens as they stand, those with the fewest brackets, and its kinds. */
final class RandomDesign {
    private static final String[] SIGNS = {"|", "^", "&", "==", "!=", "<", "<=", ">", ">=", "<<", ">>", "+", "-", "*", "/", "%"};
    private static final int[] BINDING = {1, 2, 3, 4, 4, 5, 5, 5, 5, 6, 6, 7, 7, 8, 8, 8};
    private static final int UNARY = 9;

    /** Something made: its tokens in both forms, its kinds, and how tightly it binds (0: a choice). */
    private static final class Piece {
        final List<String> loose = new ArrayList<>();
        final List<String> tight = new ArrayList<>();
        final List<Integer> kinds = new ArrayList<>();
        int binding = UNARY;

        Piece kind(int kind) {
            kinds.add(kind);
            return this;
        }

        Piece token(String... tokens) {
            for (String token : tokens) {
                loose.add(token);
                tight.add(token);
            }
            return this;
        }

        Piece piece(Piece other) {
            loose.addAll(other.loose);
            tight.addAll(other.tight);
            kinds.addAll(other.kinds);
            return this;
        }

        /** In brackets that it needs, or in some that it does not. */
        Piece within(boolean needed, boolean extra) {
            Piece out = new Piece();
            out.binding = needed || extra ? UNARY : binding;
            if (needed || extra) {
                out.loose.add("(");
            }
            if (needed) {
                out.tight.add("(");
            }
            out.piece(this);
            if (needed || extra) {
                out.loose.add(")");
            }
            if (needed) {
                out.tight.add(")");
            }
            return out;
        }
    }

    private final Dice dice;
    final String text;
    final String shortest;
    final List<Integer> kinds;

    RandomDesign(Dice dice) {
        this.dice = dice;
        Piece all = new Piece().kind(0);
        for (int items = dice.below(5); items > 0; items--) {
            all.piece(item(dice.below(5)));
        }
        text = layout(all.loose);
        shortest = join(all.tight);
        kinds = all.kinds;
    }

    static String join(List<String> tokens) {
        StringBuilder out = new StringBuilder();
        for (String token : tokens) {
            if (mustPart(out, token)) {
                out.append(' ');
            }
            out.append(token);
        }
        return out.toString();
    }

    private static boolean mustPart(CharSequence before, String token) {
        return before.length() > 0 && Character.isJavaIdentifierPart(before.charAt(before.length() - 1))
            && Character.isJavaIdentifierPart(token.charAt(0));
    }

    private String layout(List<String> tokens) {
        StringBuilder out = new StringBuilder();
        for (String token : tokens) {
            if (mustPart(out, token) || dice.oneIn(6)) {
                // a blank first: behind the sign / a remark would begin one byte too early
                out.append(dice.pick(" ", "\n", "\t", "\r", "  ", " // a remark; @\n", "\t//\n"));
            }
            out.append(token);
        }
        return out + dice.pick("", " ", "\n", "// end");
    }

    private Piece name() {
        return new Piece().kind(21).token(dice.pick("a", "b", "c", "L", "H", "_", "x1", "levels", "in_", "Zz_9"));
    }

    private Piece names(Piece out, String between) {
        out.piece(name());
        for (int more = dice.below(3); more > 0; more--) {
            out.token(between).piece(name());
        }
        return out;
    }

    private Piece item(int depth) {
        switch (dice.below(9)) {
            case 0:
                Piece level = new Piece().kind(1).token("level").piece(name());
                return (dice.oneIn(2) ? level : names(level.token(">"), ",")).token(";");
            case 1:
                return new Piece().kind(2).token("const").piece(name()).token("=").piece(sum(depth)).token(";");
            case 2:
                return function(depth);
            case 3:
                return width(new Piece().kind(6).token("mode").piece(name()), depth).token("=").piece(sum(depth)).token(";");
            case 4:
                return width(new Piece().kind(7).token("in").piece(name()), depth).token(":").piece(label(depth)).token(";");
            case 5:
                return width(new Piece().kind(8).token("reg").piece(name()), depth).token("=").piece(sum(depth))
                    .token(":").piece(label(depth)).token(";");
            case 6:
                return new Piece().kind(9).token("wire").piece(name()).token("=").piece(expr(depth + 2)).token(";");
            case 7:
                return new Piece().kind(10).token("out").piece(name()).token(":").piece(label(depth))
                    .token("=").piece(expr(depth)).token(";");
            default:
                return new Piece().kind(11).token("next").piece(block(depth));
        }
    }

    private Piece width(Piece out, int depth) {
        return out.token("[").piece(sum(depth)).token("]");
    }

    private Piece function(int depth) {
        Piece out = new Piece().kind(3).token("fun").piece(name()).kind(4);
        if (dice.oneIn(2)) {
            names(out.token("["), ",").token("]");
        }
        width(out.token("(").kind(5).piece(name()), depth);
        for (int more = dice.below(3); more > 0; more--) {
            width(out.token(",").kind(5).piece(name()), depth);
        }
        return width(out.token(")"), depth).token("=").piece(expr(depth)).token(";");
    }

    private Piece label(int depth) {
        if (depth <= 0 || dice.oneIn(2)) {
            return names(new Piece().kind(18), "|");
        }
        return new Piece().kind(19).token("if", "(").piece(name()).token("==").piece(sum(depth - 1)).token(")")
            .piece(label(depth - 1)).token("else").piece(label(depth - 1));
    }

    private Piece block(int depth) {
        Piece out = new Piece().kind(12).token("{");
        for (int more = dice.below(3); more > 0; more--) {
            out.piece(statement(depth - 1));
        }
        return out.token("}");
    }

    private Piece statement(int depth) {
        int choice = depth <= 0 ? 0 : dice.below(3);
        if (choice == 0) {
            return new Piece().kind(13).piece(name()).token("<=").piece(expr(depth)).token(";");
        }
        if (choice == 1) {
            Piece out = new Piece().kind(14).token("if", "(").piece(expr(depth)).token(")").piece(block(depth));
            return dice.oneIn(2) ? out : out.token("else").piece(block(depth));
        }
        Piece out = new Piece().kind(15).token("case", "(").piece(expr(depth)).token(")", "{");
        for (int cases = 1 + dice.below(3); cases > 0; cases--) {
            out.kind(16).piece(sum(depth)).token(":").piece(block(depth));
        }
        if (dice.oneIn(2)) {
            out.kind(17).token("default", ":").piece(block(depth));
        }
        return out.token("}");
    }

    private Piece sum(int depth) {
        if (depth > 0 && dice.oneIn(2)) {
            return row(depth, true, 11, 16);
        }
        return sumAtom().within(false, dice.oneIn(5));
    }

    private Piece sumAtom() {
        return dice.oneIn(2) ? name() : new Piece().kind(20).token(dice.pick("0", "1", "10", "255", "2147483647"));
    }

    private Piece expr(int depth) {
        Piece out;
        if (depth > 0 && dice.oneIn(6)) {
            Piece asked = expr(depth - 1);
            out = new Piece().kind(23).piece(asked.within(asked.binding == 0, dice.oneIn(5))).token("?")
                .piece(expr(depth - 1)).token(":").piece(expr(depth - 1));
            out.binding = 0;
        } else if (depth > 0 && dice.oneIn(2)) {
            out = row(depth, false, 0, 14);
        } else {
            out = unary(depth);
        }
        // a piece in brackets binds as what is in them when the fewest are written
        int binding = out.binding;
        out = out.within(false, dice.oneIn(8));
        out.binding = binding;
        return out;
    }

    /** A row of operators, of those from one on up to, but without, another one, that bind alike. */
    private Piece row(int depth, boolean inSum, int from, int to) {
        int first = from + dice.below(to - from);
        Piece out = new Piece().kind(22).piece(operand(depth, inSum, BINDING[first]));
        int sign = first;
        for (int more = 1 + dice.below(3); more > 0; more--) {
            out.kind(24 + sign).token(SIGNS[sign]).piece(operand(depth, inSum, BINDING[first]));
            do {
                sign = from + dice.below(to - from);
            } while (BINDING[sign] != BINDING[first]);
        }
        out.binding = BINDING[first];
        return out;
    }

    private Piece operand(int depth, boolean inSum, int binding) {
        Piece part = inSum ? sum(depth - 1) : expr(depth - 1);
        return part.within(part.binding <= binding, dice.oneIn(5));
    }

    private Piece exprs(Piece out, int depth) {
        out.piece(expr(depth));
        for (int more = dice.below(3); more > 0; more--) {
            out.token(",").piece(expr(depth));
        }
        return out;
    }

    private Piece unary(int depth) {
        int d = depth - 1;
        switch (depth <= 0 ? 0 : dice.below(9)) {
            case 1:
                int sign = dice.below(3);
                Piece part = expr(d);
                return new Piece().kind(40 + sign).token("~-!".substring(sign, sign + 1))
                    .piece(part.within(part.binding < UNARY, dice.oneIn(5)));
            case 2:
                return exprs(new Piece().kind(43).token("{"), d).token("}");
            case 3:
                return width(new Piece().kind(44).piece(name()), d);
            case 4:
                return new Piece().kind(45).piece(name()).token("[").piece(sum(d)).token(":").piece(sum(d)).token("]");
            case 5:
                return exprs(new Piece().kind(46).piece(name()).kind(47).token("("), d).token(")");
            case 6:
                Piece call = new Piece().kind(46).piece(name()).kind(47).token("[").piece(sum(d));
                for (int more = dice.below(3); more > 0; more--) {
                    call.token(",").piece(sum(d));
                }
                return exprs(call.token("]", "("), d).token(")");
            case 7:
                int word = dice.below(3);
                Piece worded = new Piece().kind(48 + word).token(new String[] {"num", "zext", "sext"}[word], "(")
                    .piece(sum(d)).token(",");
                return worded.piece(word == 0 ? sum(d) : expr(d)).token(")");
            case 8:
                int gate = dice.below(3);
                return new Piece().kind(51 + gate).token(new String[] {"any", "all", "odd"}[gate], "(").piece(expr(d)).token(")");
            default:
                return name();
        }
    }
}
