/** 'Terms', THE FAULT: its four places, which of them comes first, and the end of the text. */
public final class EdgesOfFaultsTest {
    private static final String SIXTY = "(".repeat(60);

    public static void main(String[] args) {
        tokenThatDoesNotGoOn();
        somethingTooDeep();
        byteWithoutToken();
        endOfText();
        theFirstOfThem();
        everyTokenGoesOn();
        everyByteOfBlanks();
        Check.end();
    }

    private static int read(String text) {
        return Check.read(new Subject(), 0, text);
    }

    private static void tokenThatDoesNotGoOn() {
        Check.due("the first token", read(") wire a=b;"), 0);
        Check.due("behind blanks", read("\n\t )"), 3);
        Check.due("the first token of a second item", read("wire a=b; )"), 10);
        Check.due("within an item", read("wire a=b c;"), 9);
        Check.due("the last token", read("wire a=b)"), 8);
        // the token before it goes on, though nothing that can stand behind is there
        Check.due("f[1,2] goes on with ( alone", read("wire a=f[1,2];"), 13);
        Check.due("a[1] goes on with ;", read("wire a=f[1];"), -1);
        Check.due("f[1:2] does not go on with (", read("wire a=f[1:2](b);"), 13);
        Check.due("not with ,", read("wire a=f[1:2,3];"), 12);
        Check.due("f[1,2 does not go on with :", read("wire a=f[1,2:3];"), 12);
        Check.due("the place of a long token is its first byte", read("wire a=b default;"), 9);
        Check.due("the place of a sign of two bytes", read("wire a=b = = c;"), 9);
        Check.due("the place of a number", read("wire a=b 123;"), 9);
    }

    private static void somethingTooDeep() {
        Check.due("60 deep", read("wire w=" + "(".repeat(59) + "a" + ")".repeat(59) + ";"), -1);
        Check.due("61 deep", read("wire w=" + SIXTY + "a" + ")".repeat(60) + ";"), 67);
        Check.due("61 deep behind blanks", read("wire w=" + SIXTY + " //\n a" + ")".repeat(60) + ";"), 72);
        Check.due("at its first token, not later", read("wire w=" + SIXTY + "a+b*(c)" + ")".repeat(60) + ";"), 67);
        Check.due("behind a part that is not too deep", read("wire w=" + "(".repeat(59) + "a+(b)"), 7 + 59 + 3);
        // -(a) is 3 deep at a: the UNARY behind - is one, what is in brackets another
        Check.due("-(a), 60 deep at a", read("wire w=" + "(".repeat(57) + "-(a)" + ")".repeat(57) + ";"), -1);
        Check.due("-(a), 61 deep at a", read("wire w=" + "(".repeat(58) + "-(a)" + ")".repeat(58) + ";"), 7 + 58 + 2);
        Check.due("-(a), 61 deep at (", read("wire w=" + "(".repeat(59) + "-(a)" + ")".repeat(59) + ";"), 7 + 59 + 1);
        // what lies side by side is not deeper
        Check.due("60 side by side", read("wire w=" + "(a)+".repeat(100) + "-a*".repeat(100) + "a;"), -1);
        Check.due("statements side by side", read("next{" + "if(a){}".repeat(100) + "a<=b;}"), -1);
        Check.due("items side by side", read("wire w=(a);".repeat(100)), -1);
        Check.due("depth ends with its bracket", read("wire w=" + "(".repeat(59) + "a" + ")".repeat(59) + "+" + "(".repeat(59)
            + "a" + ")".repeat(59) + ";"), -1);
        Check.due("a row is not deeper", read("wire w=" + "(".repeat(59) + "a|a^a&a==a<a<<a+a*a" + ")".repeat(59) + ";"), -1);
        Check.due("the first EXPR of a choice is not deeper", read("wire w=" + "(".repeat(58) + "a?b:c" + ")".repeat(58) + ";"), -1);
        Check.due("its second one is", read("wire w=" + "(".repeat(59) + "a?b:c" + ")".repeat(59) + ";"), 7 + 59 + 2);
    }

    private static void byteWithoutToken() {
        Check.due("the first byte", read("@"), 0);
        Check.due("where an item may end", read("wire a=b @;"), 9);
        Check.due("right behind a token", read("wire a=b@;"), 8);
        Check.due("behind an item", read("wire a=b;@"), 9);
        Check.due("a name of 31 bytes", read("wire a=" + "b".repeat(31) + ";"), 7);
        Check.due("a number that is too great", read("const c=1+2147483648;"), 10);
        Check.due("a number with a letter behind", read("const c=1+2b;"), 10);
        Check.due("a number with 0 in front", read("const c=1+02;"), 10);
        Check.due("a quote", read("wire a=\"b\";"), 7);
        Check.due("a point", read("const c=1.5;"), 9);
        Check.due("byte 0", read("wire\u0000a=b;"), 4);
        Check.due("byte 255", read("wire a=\u00ff;"), 7);
    }

    /** The place of the end is the number of the text's bytes: of n, not of all that were fed. */
    private static void endOfText() {
        Check.due("the end right behind a token", read("wire a=b"), 8);
        Check.due("the end behind blanks", read("wire a=b \n"), 10);
        Check.due("the end behind a remark", read("wire a=b//"), 10);
        for (int n = 7; n <= 20; n++) {
            Subject reader = new Subject();
            Check.feed(reader, "level A             ");
            Check.due("the end at " + n, reader.read(0, n), n);
        }
        Subject reader = new Subject();
        Check.feed(reader, "level A             ");
        Check.due("the end of all bytes", reader.read(0, -1), 20);
        Check.feed(reader, "level A             ");
        Check.feed(reader, "                    ;");
        Check.due("the end of the first n of more bytes", reader.read(0, 40), 40);
        Check.due("the end at 7999", read("level A" + " ".repeat(7992)), 7999);
        Check.due("the end at 8000", read("level A" + " ".repeat(7993)), 8000);
        Check.due("the end of nothing is none", read(""), -1);
        Check.due("the end behind an item is none", read("level A;"), -1);
        Check.due("the end behind blanks alone is none", read(" \n// "), -1);
    }

    private static void theFirstOfThem() {
        Check.due("a token, then a byte", read("wire w=a ) @"), 9);
        Check.due("a byte, then a token", read("wire w=a @ )"), 9);
        Check.due("a byte far behind a token", read("wire w=);level A;@"), 7);
        Check.due("a token, then too deep", read("wire w=a b" + SIXTY + "a"), 9);
        Check.due("too deep, then a token", read("wire w=" + SIXTY + "a]"), 67);
        Check.due("too deep, then a byte", read("wire w=" + SIXTY + "a@"), 67);
        Check.due("a byte, then too deep", read("wire w=" + "(".repeat(59) + "@(a"), 66);
        Check.due("a byte 61 deep", read("wire w=" + SIXTY + "@"), 67);
        Check.due("a token 61 deep", read("wire w=" + SIXTY + "]"), 67);
        Check.due("a name of 31 bytes 61 deep", read("wire w=" + SIXTY + "b".repeat(31)), 67);
        Check.due("the end 61 deep", read("wire w=" + SIXTY), 67);
        Check.due("the end 61 deep, behind blanks", read("wire w=" + SIXTY + "   "), 70);
        Check.due("61 deep at the last byte", read("wire w=" + SIXTY + "a"), 67);
        Check.due("the end, then nothing", read("wire w=" + "(".repeat(59) + "a"), 67);
        Check.due("two items with faults", read("wire w=;wire w=;"), 7);
    }

    /** Of a design with all that there is, each beginning goes on: the fault is its end, or there is none behind an item. */
    private static void everyTokenGoesOn() {
        String design = "level A ; level B > A , A ; const c = 1 + c * ( 2 - 3 ) / 4 % 5 ; fun f ( a [ 1 ] , b [ c ] ) [ 2 ] = a ; "
            + "fun g [ P , Q ] ( a [ P ] ) [ Q ] = { a , a } ; mode m [ 2 ] = 0 ; in i [ 8 ] : A | B ; "
            + "reg r [ 8 ] = 3 : if ( m == 1 ) A else if ( m == 2 ) B else A | B ; "
            + "wire w = i | r ^ i & r == i != r < i <= r > i >= r << i >> r + i - r * i ; "
            + "wire v = i ? r ? i : r : ~ - ! ( i ) ; wire u = i [ 3 ] + i [ 7 : 4 ] + f ( i , r ) + g [ 1 , c ] ( i ) + g [ 1 ] ( r ) ; "
            + "out o : A = num ( 8 , 255 ) + zext ( 9 , i ) + sext ( 9 , i ) + any ( i ) + all ( i ) + odd ( i ) ; next { } "
            + "next { r <= i ; if ( i ) { } if ( r ) { r <= r ; } else { } case ( i ) { 0 : { } 1 + 1 : { } default : { r <= i ; } } "
            + "case ( r ) { c : { } } } ";
        String[] tokens = design.split(" ");
        StringBuilder text = new StringBuilder();
        int open = 0;
        int items = 0;
        boolean isNext = false;
        for (String token : tokens) {
            text.append(token);
            open += token.equals("{") ? 1 : token.equals("}") ? -1 : 0;
            isNext = isNext || token.equals("next");
            boolean whole = open == 0 && token.equals(isNext ? "}" : ";");
            items += whole ? 1 : 0;
            Subject reader = new Subject();
            Check.due("read of " + text, Check.read(reader, 0, text.toString()), whole ? -1 : text.length());
            Check.due("items of " + text, reader.node(0, 0, 4), items);
            text.append(' ');
            Check.due("read with a blank of " + text, Check.read(new Subject(), 0, text.toString()), whole ? -1 : text.length());
            Check.due("a byte behind " + text, Check.read(new Subject(), 0, text + "@"), text.length());
        }
        Check.due("items", items, 14);
    }

    /** A fault in front of which stand as many blanks as fit, with each count of bytes up to 60. */
    private static void everyByteOfBlanks() {
        for (int blanks = 0; blanks <= 60; blanks++) {
            Check.due("a fault behind " + blanks, read(" ".repeat(blanks) + "x"), blanks);
            Subject reader = new Subject();
            Check.due("an item behind " + blanks, Check.read(reader, 0, " ".repeat(blanks) + "next{}"), -1);
            Check.due("its place", reader.node(0, 1, 1), blanks);
            Check.due("the place of its block", reader.node(0, 2, 1), blanks + 4);
        }
        Check.due("a fault at the last of 8000 bytes", read(" ".repeat(7999) + "x"), 7999);
        Subject reader = new Subject();
        Check.due("an item at the last of 8000 bytes", Check.read(reader, 0, " ".repeat(7994) + "next{}"), -1);
        Check.due("its place", reader.node(0, 1, 1), 7994);
    }
}
