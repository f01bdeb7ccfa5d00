/** 'Terms', tokens: the longest NAME, WORDS, the greatest NUMBER, 0 in front, what ends a remark, each byte. */
public final class EdgesOfTokensTest {
    private static final String LETTERS = "ABCDEFGHIJKLMNOPQRSTUVWXYZabcdefghijklmnopqrstuvwxyz_";
    private static final String DIGITS = "0123456789";
    private static final String BLANKS = "\t\n\r ";
    private static final String[] WORDS = {"level", "const", "fun", "mode", "in", "reg", "wire", "out", "next", "if", "else",
        "case", "default", "num", "zext", "sext", "any", "all", "odd"};
    /** Texts with ` where a NAME must stand, or what a SUM, an EXPR, a LABEL or a STATEMENT may begin with. */
    private static final String[] NAMES = {"level `;", "level A>`;", "level A>B,`;", "const `=1;", "fun `(a[1])[1]=a;",
        "fun f[`](a[1])[1]=a;", "fun f[P,`](a[1])[1]=a;", "fun f(`[1])[1]=a;", "fun f(a[1],`[1])[1]=a;", "mode `[1]=0;", "in `[1]:L;",
        "in a[1]:L|`;", "in a[1]:if(`==0)L else L;", "reg `[1]=0:L;", "wire `=a;", "out `:L=a;"};
    private static final String[] SUMS = {"const c=`;", "const c=1*`;", "const c=1+`;", "const c=(`);", "fun f(a[`])[1]=a;",
        "fun f(a[1])[`]=a;", "mode m[`]=0;", "mode m[1]=`;", "in a[`]:L;", "in a[1]:if(m==`)L else L;", "reg r[`]=0:L;", "reg r[1]=`:L;",
        "wire w=a[`];", "wire w=a[`:1];", "wire w=a[1:`];", "wire w=f[`](a);", "wire w=f[1,`](a);", "wire w=num(`,1);",
        "wire w=num(1,`);", "wire w=zext(`,a);", "wire w=sext(`,a);", "next{case(a){`:{}}}", "next{case(a){0:{}1+`:{}}}"};
    private static final String[] EXPRS = {"fun f(a[1])[1]=`;", "wire w=`;", "wire w=-`;", "wire w=(`);", "wire w={`,a};", "wire w=a+`;",
        "wire w=a?`:a;", "wire w=a?a:`;", "wire w=`[1];", "wire w=`[1:0];", "wire w=`(a);", "wire w=f(`);", "wire w=f(a,`);",
        "wire w=sext(1,`);", "wire w=any(`);", "out o:L=`;", "next{a<=`;}", "next{if(`){}}", "next{case(`){0:{}}}"};
    private static final String[] LABELS = {"in a[1]:`;", "in a[1]:if(m==0)` else L;", "in a[1]:if(m==0)L else `;", "reg r[1]=0:`;",
        "out o:`=a;"};
    private static final String[] STATEMENTS = {"next{`<=a;}", "next{a<=a;`<=a;}", "next{if(a){`<=a;}}"};

    public static void main(String[] args) {
        longestName();
        whatEndsAName();
        bytesOfNames();
        words();
        greatestNumber();
        zeroInFront();
        whatStandsBehindANumber();
        remarks();
        bytesBetweenTokens();
        longestSigns();
        tokensCutByN();
        Check.end();
    }

    private static int read(String text) {
        return Check.read(new Subject(), 0, text);
    }

    private static String asText(int c) {
        return String.valueOf((char) c);
    }

    private static boolean isOneOf(int c, String set) {
        return set.indexOf(c) >= 0;
    }

    /** 29 and 30 bytes are a NAME, 31 and more are no token: the fault is at the first of them. */
    private static void longestName() {
        String longest = "_aZ09_______bcdefghijklmnopqrs";
        Check.due("the longest name", longest.length(), 30);
        String[][] allPlaces = {NAMES, SUMS, EXPRS, LABELS, STATEMENTS};
        for (String[] places : allPlaces) {
            for (String place : places) {
                Check.due("29 bytes at " + place, read(place.replace("`", longest.substring(0, 29))), -1);
                Check.due("30 bytes at " + place, read(place.replace("`", longest)), -1);
                Check.due("31 bytes at " + place, read(place.replace("`", longest + "t")), place.indexOf('`'));
            }
        }
        for (int length = 1; length <= 64; length++) {
            String name = "n".repeat(length);
            Subject reader = new Subject();
            Check.due("a name of " + length, Check.read(reader, 0, "level " + name + ";"), length <= 30 ? -1 : 6);
            Check.due("names, with one of " + length, Check.allNames(reader), length <= 30 ? name + " " : "");
            Check.due("written, with one of " + length, Check.write(reader, 0, 0), length <= 30 ? "level " + name + ";" : "");
        }
        // a name that is too long is not the one that its first 30 bytes are
        Subject reader = Check.reader("level " + longest + ";");
        Check.due("31 bytes, the first 30 known", Check.read(reader, 0, "level " + longest + "t;"), 6);
        Check.due("31 digits behind a letter", read("level a" + "1".repeat(30) + ";"), 6);
        Check.due("30 digits behind a letter", read("level a" + "1".repeat(29) + ";"), -1);
        // too long is no token even where no NAME may stand, and a WORD at its beginning is none
        Check.due("in place of an item", read("level_level_level_level_level_l A;"), 0);
        Check.due("behind an item", read("level A;level_level_level_level_level_l A;"), 8);
        Check.due("7993 bytes", read("level " + "q".repeat(7993) + ";"), 6);
    }

    private static void whatEndsAName() {
        String name = "x".repeat(30);
        for (int c = 0; c < 256; c++) {
            String text = "level " + name + asText(c) + ";";
            int want = isOneOf(c, BLANKS) ? -1 : isOneOf(c, LETTERS + DIGITS) ? 6 : c == '>' || c == ';' ? 37 : 36;
            Check.due("a name of 30, then byte " + c, read(text), want);
        }
    }

    private static void bytesOfNames() {
        for (int c = 0; c < 256; c++) {
            int first = isOneOf(c, LETTERS) ? -1 : isOneOf(c, BLANKS) ? 7 : 6;
            Check.due("a name of byte " + c, read("level " + asText(c) + ";"), first);
            int second = isOneOf(c, LETTERS + DIGITS + BLANKS) ? -1 : c == '>' || c == ';' ? 8 : 7;
            Subject reader = new Subject();
            Check.due("a second byte " + c, Check.read(reader, 0, "level q" + asText(c) + ";"), second);
            if (isOneOf(c, LETTERS + DIGITS)) {
                Check.due("spelt of byte " + c, reader.spelt(0, 1), c);
                Check.due("no byte behind " + c, reader.spelt(0, 2), -1);
            }
        }
    }

    /** A WORD is no NAME; with a byte less, a byte more or another case, it is one. */
    private static void words() {
        for (String word : WORDS) {
            noWord(word, "", NAMES);
            noWord(word, "", SUMS);
            noWord(word, "num zext sext any all odd", EXPRS);
            noWord(word, "if", LABELS);
            noWord(word, "if case", STATEMENTS);
            String[] names = {word + "_", word + "0", word + "s", "_" + word, word.toUpperCase(), word.substring(1) + "_",
                word.substring(0, 1).toUpperCase() + word.substring(1), word + word};
            for (String name : names) {
                Check.due("a name like a word", Check.allNames(Check.reader("level " + name + ";")), name + " ");
            }
            Check.due("the end of " + word, read("level " + word.substring(1) + ";"), -1);
            Check.due("the beginning of " + word, read("level " + word.substring(0, word.length() - 1) + ";"), -1);
        }
        Check.due("a word ends where a sign begins", read("next{if(a){}else{}}"), -1);
        Check.due("a word does not end at a digit", read("next0{}"), 0);
        Check.due("nor at another word", read("levelnext;"), 0);
        Check.due("a blank ends it", read("level\nA;"), -1);
        Check.due("a remark ends it", read("level//\nA;"), -1);
    }

    private static void noWord(String word, String allowed, String[] places) {
        for (String place : places) {
            if (!(" " + allowed + " ").contains(" " + word + " ")) {
                Check.due("the word " + word + " at " + place, read(place.replace("`", word)), place.indexOf('`'));
            }
        }
    }

    private static void greatestNumber() {
        String[] good = {"2147483646", "2147483647"};
        String[] bad = {"2147483648", "2147483649", "2147483657", "2147483700", "2147484000", "3000000000", "4294967295",
            "4294967296", "4294967297", "9223372036854775807", "9223372036854775808", "18446744073709551615",
            "18446744073709551616", "18446744073709551617", "21474836470", "1" + "0".repeat(10), "1" + "0".repeat(7000),
            "9".repeat(7000)};
        for (String number : good) {
            for (String place : SUMS) {
                Subject reader = new Subject();
                String text = place.replace("`", number);
                Check.due(number + " at " + place, Check.read(reader, 0, text), -1);
                Check.due("written of it", Check.write(reader, 0, 0), text.replace("(" + number + ");", number + ";"));
            }
            Subject reader = Check.reader("const c=" + number + ";");
            Check.due("value of " + number, reader.node(0, 3, 2), Integer.parseInt(number));
            Check.due("write of " + number, Check.write(reader, 0, 3), number);
        }
        for (String number : bad) {
            Check.due("too great: " + number.length() + " digits", read("const c=" + number + ";"), 8);
        }
        for (String place : SUMS) {
            Check.due("2147483648 at " + place, read(place.replace("`", "2147483648")), place.indexOf('`'));
        }
        for (int unit = 1; unit <= 1000000000 && unit > 0; unit *= 10) {
            for (int number = unit - 1; number <= unit + 1; number++) {
                Subject reader = Check.reader("const c=" + number + ";");
                Check.due("value", reader.node(0, 3, 2), number);
                Check.due("write", Check.write(reader, 0, 3), "" + number);
            }
        }
    }

    private static void zeroInFront() {
        for (String place : SUMS) {
            int at = place.indexOf('`');
            Check.due("0 at " + place, read(place.replace("`", "0")), -1);
            Check.due("1 at " + place, read(place.replace("`", "1")), -1);
            Check.due("10 at " + place, read(place.replace("`", "10")), -1);
            Check.due("00 at " + place, read(place.replace("`", "00")), at);
            Check.due("01 at " + place, read(place.replace("`", "01")), at);
            Check.due("0 1 at " + place, read(place.replace("`", "0 1")), at + 2);
        }
        String[] bad = {"000", "0000000000", "02147483647", "00000000001", "09", "010"};
        for (String number : bad) {
            Check.due("no number: " + number, read("const c=" + number + ";"), 8);
        }
        Check.due("0 and a sign", read("const c=0+0*0;"), -1);
        Check.due("0 in a name", read("const c=a00;"), -1);
        Check.due("value of 0", Check.reader("const c=0;").node(0, 3, 2), 0);
    }

    private static void whatStandsBehindANumber() {
        String signs = "+-*/%";
        for (int c = 0; c < 256; c++) {
            String[] numbers = {"0", "7", "2147483647"};
            for (String number : numbers) {
                int behind = 8 + number.length();
                boolean isMore = isOneOf(c, DIGITS) && number.equals("7");
                int want = isMore || isOneOf(c, BLANKS) ? -1 : isOneOf(c, LETTERS + DIGITS) ? 8
                    : isOneOf(c, signs) || c == ';' ? behind + 1 : behind;
                Check.due(number + ", then byte " + c, read("const c=" + number + asText(c) + ";"), want);
            }
        }
        Check.due("a word behind", read("next{case(a){0default:{}}}"), 13);
        Check.due("a word behind a blank", read("next{case(a){0 default:{}}}"), 15);
    }

    /** A remark goes up to the next byte 10, or the end; nothing else ends it. */
    private static void remarks() {
        Check.due("// alone", read("//"), -1);
        Check.due("// and 10", read("//\n"), -1);
        Check.due("a remark up to the end", read("level A;// x ;@ \" 00"), -1);
        Check.due("10 ends it", read("//x\n@"), 4);
        Check.due("10 at once", read("//\n@"), 3);
        for (int c = 0; c < 256; c++) {
            Check.due("a remark with byte " + c, read("//" + asText(c) + "@"), c == 10 ? 3 : -1);
            Check.due("a remark with byte " + c + ", then 10", read("//" + asText(c) + "\n@"), 4);
        }
        Check.due("a remark in a remark", read("// //\n@"), 6);
        Check.due("three signs", read("///\n@"), 4);
        Check.due("two remarks", read("//\n//\n@"), 6);
        Check.due("/ alone", read("/"), 0);
        Check.due("/ at the end", read("level A;/"), 8);
        Check.due("/ and 10", read("/\n/"), 0);
        Check.due("a remark between all tokens", read("wire//\na//\n=//\nb//\n[//\n1//\n]//\n;//"), -1);
        Check.due("no / is left by a remark", read("const c=1//2\n;"), -1);
        Check.due("two / apart", read("const c=1/ /2;"), 11);
        Check.due("three / in a sum", read("const c=1///2\n;"), -1);
        Check.due("the end is behind a remark", read("level A//;"), 10);
        Check.due("the end is behind the 10 of a remark", read("level A//;\n"), 11);
        Check.due("a remark of 8000 bytes", read("/".repeat(8000)), -1);
        Check.due("a fault behind a long one", read("/".repeat(7998) + "\n@"), 7999);
        Subject reader = new Subject();
        Check.feed(reader, "level A;//  \nlevel B");
        Check.due("n cuts a remark off before its 10", reader.read(0, 12), -1);
        Check.feed(reader, "level A;//  \nlevel B");
        Check.due("n is behind its 10", reader.read(0, 13), -1);
        Check.feed(reader, "level A;//  \nlevel B");
        Check.due("n is behind //", reader.read(0, 10), -1);
        Check.feed(reader, "level A;//  \nlevel B");
        Check.due("n is within //", reader.read(0, 9), 8);
    }

    private static void bytesBetweenTokens() {
        for (int c = 0; c < 256; c++) {
            Check.due("byte " + c + " alone", read(asText(c)), isOneOf(c, BLANKS) ? -1 : 0);
            Check.due("byte " + c + " behind an item", read("next{}" + asText(c)), isOneOf(c, BLANKS) ? -1 : 6);
            int want = isOneOf(c, "+-*|^&<>") ? -1 : isOneOf(c, "([?") ? 12 : isOneOf(c, BLANKS) || c == ';' ? 11 : 10;
            Check.due("byte " + c + " between two names", read("wire w= a " + asText(c) + "a;"), want);
        }
    }

    private static void longestSigns() {
        String[] two = {"<=", ">=", "==", "!=", "<<", ">>"};
        for (String sign : two) {
            Check.due(sign, read("wire w=a" + sign + "a;"), -1);
            int apart = read("wire w=a" + sign.charAt(0) + " " + sign.charAt(1) + "a;");
            Check.due(sign + " apart", apart, sign.equals("==") || sign.equals("!=") ? 8 : 10);
            Check.due(sign + " with a remark within", read("wire w=a" + sign.charAt(0) + "//\n" + sign.charAt(1) + "a;") >= 8, true);
        }
        Check.due("=! is two signs", read("wire w=!a;"), -1);
        Check.due("=- is two signs", read("wire w=-a;"), -1);
        Check.due("<- is two signs", read("wire w=a<-a;"), -1);
        Check.due("<<- is two signs", read("wire w=a<<-a;"), -1);
        Check.due("<=~ is two signs", read("next{a<=~a;}"), -1);
        Check.due("!! is two signs", read("wire w=!!a;"), -1);
        Check.due("!= is one", read("wire w=!=a;"), 7);
        Check.due("== is one", read("wire w==a;"), 6);
        Check.due(">> is one", read("level A>>B;"), 7);
        Check.due(">= is one", read("level A>=B;"), 7);
        Check.due("<<= is << and =", read("wire w=a<<=a;"), 10);
        Check.due(">>= is >> and =", read("wire w=a>>=a;"), 10);
        Check.due("<== is <= and =", read("wire w=a<==a;"), 10);
        Check.due("=== is == and =", read("wire w=a===a;"), 10);
        Check.due("!== is != and =", read("wire w=a!==a;"), 10);
        Check.due("<<< is << and <", read("wire w=a<<<a;"), 10);
        Check.due(">>> is >> and >", read("wire w=a>>>a;"), 10);
    }

    /** A token that n cuts is what is left of it. */
    private static void tokensCutByN() {
        Subject reader = new Subject();
        Check.feed(reader, "level AB;");
        Check.due("a name", reader.read(0, 7), 7);
        Check.feed(reader, "level A;level B;");
        Check.due("a word is a name then", reader.read(0, 12), 8);
        Check.feed(reader, "level A;level B;");
        Check.due("a word is whole", reader.read(0, 13), 13);
        Check.feed(reader, "const c=12345678901;");
        Check.due("a number that is too great behind n", reader.read(0, 17), 17);
        Check.feed(reader, "const c=12345678901;");
        Check.due("too great before n", reader.read(0, 19), 8);
        Check.feed(reader, "const c=1x;");
        Check.due("a letter behind n", reader.read(0, 9), 9);
        Check.feed(reader, "const c=01;");
        Check.due("a digit behind n", reader.read(0, 9), 9);
        Check.feed(reader, "wire w=a<<a;");
        Check.due("a sign of two bytes", reader.read(0, 9), 9);
        Check.feed(reader, "level " + "x".repeat(31) + ";");
        Check.due("the 31st byte of a name behind n", reader.read(0, 36), 36);
        Check.feed(reader, "level " + "x".repeat(31) + ";");
        Check.due("the 31st byte of a name before n", reader.read(0, 37), 6);
        Check.due("names of whole items alone", Check.allNames(reader), "A ");
    }
}
