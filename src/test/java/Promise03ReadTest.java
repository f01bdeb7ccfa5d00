/** Promise 3: read: which bytes it takes, what it leaves, what it refuses; tokens and blanks. */
public final class Promise03ReadTest {
    public static void main(String[] args) {
        whichBytes();
        refused();
        inPlaceOfWhatItWas();
        blanks();
        tokens();
        words();
        Check.end();
    }

    private static void whichBytes() {
        Subject reader = new Subject();
        Check.feed(reader, "level A;level B;xxxx");
        Check.due("first 16 bytes", reader.read(0, 16), -1);
        Check.due("nodes", reader.nodes(0), 5);
        Check.due("the rest is gone", reader.read(0, 1), -2);
        Check.due("all that is left", reader.read(0, -1), -1);
        Check.due("nodes of nothing", reader.nodes(0), 1);
        Check.feed(reader, "level A;level B;xxxx");
        Check.due("all", reader.read(0, -1), 16);
        Check.feed(reader, "level A;level B;xxxx");
        Check.due("none", reader.read(0, 0), -1);
        Check.due("nodes of none", reader.nodes(0), 1);
        Check.feed(reader, "level A;level B;xxxx");
        Check.due("a token is cut by n", reader.read(0, 13), 13);
        Check.due("nodes before it", reader.nodes(0), 3);
        Check.feed(reader, "level AB;           ");
        Check.due("a name is cut by n", reader.read(0, 7), 7);
        Check.feed(reader, "//                  ");
        Check.due("a remark is cut by n", reader.read(0, 1), 0);
        Check.feed(reader, "level A;");
        Check.feed(reader, "level B;");
        Check.due("two feeds", reader.read(1, 28), -1);
        Check.due("place in the second", reader.node(1, 3, 1), 20);
    }

    private static void refused() {
        Subject reader = Check.reader("wire a=b;");
        Check.feed(reader, "level A;");
        int[] noTrees = {-1, 2, 3, Integer.MIN_VALUE, Integer.MAX_VALUE};
        for (int tree : noTrees) {
            Check.due("read(" + tree + ", 8)", reader.read(tree, 8), -2);
            Check.due("read(" + tree + ", NONE)", reader.read(tree, -1), -2);
        }
        int[] noCounts = {-2, -3, 21, 8000, Integer.MIN_VALUE, Integer.MAX_VALUE};
        for (int n : noCounts) {
            Check.due("read(0, " + n + ")", reader.read(0, n), -2);
            Check.due("read(1, " + n + ")", reader.read(1, n), -2);
        }
        Check.due("tree 0 is as it was", reader.nodes(0), 4);
        Check.due("tree 1 is as it was", reader.nodes(1), 1);
        Check.due("names are as they were", reader.names(), 2);
        Check.due("bytes are as they were", reader.read(0, 20), -1);
        Check.due("now it is read", reader.nodes(0), 3);
    }

    private static void inPlaceOfWhatItWas() {
        Subject reader = Check.reader("wire a=b+c;level A;");
        Check.due("read", Check.read(reader, 1, "level Z;"), -1);
        Check.due("tree 0 stays", reader.nodes(0), 9);
        Check.due("tree 1", reader.nodes(1), 3);
        Check.due("read", Check.read(reader, 0, "level Q"), 7);
        Check.due("a fault takes the place, too", reader.nodes(0), 1);
        Check.due("tree 1 stays", reader.nodes(1), 3);
    }

    private static void blanks() {
        String[] good = {"", " ", "\t\n\r ", "//", "// x", "//\n", "//\r//\n//", "///", "// @ \u00ff \u0000\n"};
        for (String text : good) {
            Check.due("read of blanks " + text, Check.read(new Subject(), 0, text), -1);
        }
        String[] bad = {"/", "/ /", " \u000b", "\u000c", "\u0000", "\u00a0", "// x\r\n@", "//\n/"};
        int[] places = {0, 0, 1, 0, 0, 0, 6, 3};
        for (int i = 0; i < bad.length; i++) {
            Check.due("read of no blanks " + i, Check.read(new Subject(), 0, bad[i]), places[i]);
        }
        Subject reader = Check.reader("// a\n\twire//b\ra\na\r= // ;\nb//=\n<//\n c ;//");
        Check.due("blanks between tokens", Check.tree(reader, 0, 0), "0@-1(9@6(21@16 22@25(21=1@25 29@30(21=2@35))))");
    }

    private static void tokens() {
        String thirty = "abcdefghij_ABCDEFGHIJ_01234567";
        Check.due("a name of 30", Check.read(new Subject(), 0, "level " + thirty + ";"), -1);
        Check.due("a name of 31", Check.read(new Subject(), 0, "level " + thirty + "8;"), 6);
        String[] names = {"_", "__", "_1", "Z", "z", "A9_z", "levels", "Level", "LEVEL", "in_", "_in", "i", "els", "elsee"};
        for (String name : names) {
            Subject reader = Check.reader("level " + name + ";");
            Check.due("name", Check.allNames(reader), name + " ");
        }
        String[] numbers = {"0", "1", "9", "10", "2147483647", "1000000000"};
        for (String number : numbers) {
            Subject reader = Check.reader("const c=" + number + ";");
            Check.due("value of " + number, reader.node(0, 3, 2), Integer.parseInt(number));
        }
        String[] noNumbers = {"00", "01", "000", "2147483648", "2147483650", "4294967296", "9999999999", "18446744073709551616",
            "99999999999999999999999999999999999999999", "1a", "0x", "0_", "12_", "1level", "1Z"};
        for (String number : noNumbers) {
            Check.due("no number: " + number, Check.read(new Subject(), 0, "const c=" + number + ";"), 8);
        }
        String noSigns = "@#$\"'\\`.\u007f\u0080\u00ff\u0001";
        for (int i = 0; i < noSigns.length(); i++) {
            Check.due("no sign " + i, Check.read(new Subject(), 0, "const c " + noSigns.charAt(i) + "=1;"), 8);
        }
        // the longest sign that can be read at a place
        Check.due("<<=", Check.read(new Subject(), 0, "wire a=b<<=c;"), 10);
        Check.due("<=<", Check.read(new Subject(), 0, "wire a=b<=<c;"), 10);
        Check.due("< =", Check.read(new Subject(), 0, "wire a=b< =c;"), 10);
        Check.due(">>>", Check.read(new Subject(), 0, "wire a=b>>>c;"), 10);
        Check.due(">>=", Check.read(new Subject(), 0, "wire a=b>>=c;"), 10);
        Check.due("===", Check.read(new Subject(), 0, "wire a=b===c;"), 10);
        Check.due("=!", Check.read(new Subject(), 0, "wire a=!b;"), -1);
        Check.due("==!", Check.read(new Subject(), 0, "wire a=b==!c;"), -1);
        Check.due("!==", Check.read(new Subject(), 0, "wire a=b!==c;"), 10);
        Check.due("a==", Check.read(new Subject(), 0, "wire a==b;"), 6);
        Check.due(">=", Check.read(new Subject(), 0, "level A>=B;"), 7);
        Check.due("}}", Check.read(new Subject(), 0, "next{}}"), 6);
    }

    private static void words() {
        String[] words = {"level", "const", "fun", "mode", "in", "reg", "wire", "out", "next", "if", "else", "case",
            "default", "num", "zext", "sext", "any", "all", "odd"};
        for (String word : words) {
            Check.due("a word is no name: " + word, Check.read(new Subject(), 0, "level " + word + ";"), 6);
            Check.due("a longer one is: " + word, Check.read(new Subject(), 0, "level " + word + "0;"), -1);
            Check.due("a shorter one is: " + word,
                Check.read(new Subject(), 0, "level " + word.substring(1) + ";"), -1);
        }
    }
}
