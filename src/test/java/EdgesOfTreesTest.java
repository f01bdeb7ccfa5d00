/** 'Terms', TREES and WRITTEN: what there is none of, one of, or more of; texts without items, and with a fault. */
public final class EdgesOfTreesTest {
    public static void main(String[] args) {
        constantsThatAreNone();
        givenThatAreNone();
        noneOneAndMore();
        textsWithoutItems();
        faultInTheFirstItem();
        faultBehindWholeItems();
        namesOfAnItemWithAFault();
        rowsOfOnePart();
        placesAtBrackets();
        writtenAlone();
        Check.end();
    }

    private static void node(Subject reader, int k, int kind, int place, int size, int parts, int whole) {
        Check.due("kind of " + k, reader.node(0, k, 0), kind);
        Check.due("place of " + k, reader.node(0, k, 1), place);
        Check.due("value of " + k, reader.node(0, k, 2), 0);
        Check.due("size of " + k, reader.node(0, k, 3), size);
        Check.due("parts of " + k, reader.node(0, k, 4), parts);
        Check.due("whole of " + k, reader.whole(0, k), whole);
        Check.due("the last part of " + k, reader.part(0, k, parts - 1), parts == 0 ? -1 : k + size - 1);
        Check.due("no part more of " + k, reader.part(0, k, parts), -1);
    }

    /** CONSTANTS lie at the token behind the NAME, are a node even if none, and have no bytes then. */
    private static void constantsThatAreNone() {
        Subject reader = Check.reader("fun f //\n ( a[1])[1]=a;");
        node(reader, 3, 4, 10, 1, 0, 1);
        Check.due("they are part 1 of fun", reader.part(0, 1, 1), 3);
        Check.due("parts of fun", reader.node(0, 1, 4), 5);
        Check.due("something is written", reader.write(0, 2), 1);
        Check.due("none: 0 bytes", reader.write(0, 3), 0);
        Check.due("nothing is written then", reader.written(0), -1);
        Check.due("nor is there anything again", reader.again(), 0);
        reader = Check.reader("fun f //\n [ P ] ( a[1])[1]=a;");
        node(reader, 3, 4, 10, 2, 1, 1);
        Check.due("one", Check.write(reader, 0, 3), "[P]");
        reader = Check.reader("fun f //\n [ P , Q ] ( a[1])[1]=a;");
        node(reader, 3, 4, 10, 3, 2, 1);
        Check.due("two", Check.write(reader, 0, 3), "[P,Q]");
        Check.due("[] is none of them", Check.read(reader, 0, "fun f[](a[1])[1]=a;"), 6);
    }

    private static void givenThatAreNone() {
        Subject reader = Check.reader("wire w=f //\n ( a);");
        node(reader, 5, 47, 13, 1, 0, 3);
        Check.due("they are part 1 of the call", reader.part(0, 3, 1), 5);
        Check.due("parts of the call", reader.node(0, 3, 4), 3);
        Check.due("something is written", reader.write(0, 4), 1);
        Check.due("none: 0 bytes", reader.write(0, 5), 0);
        Check.due("nothing is written then", reader.written(0), -1);
        Check.due("nor is there anything again", reader.again(), 0);
        reader = Check.reader("wire w=f //\n [ 1 ] ( a);");
        node(reader, 5, 47, 13, 2, 1, 3);
        Check.due("one", Check.write(reader, 0, 5), "[1]");
        reader = Check.reader("wire w=f //\n [ 1 , 2 ] ( a);");
        node(reader, 5, 47, 13, 3, 2, 3);
        Check.due("two", Check.write(reader, 0, 5), "[1,2]");
        Check.due("[] is none of them", Check.read(reader, 0, "wire w=f[](a);"), 9);
    }

    /** The item of a text has these nodes; it is written as it stands. */
    private static void item(String text, String want) {
        Subject reader = Check.reader(text);
        Check.due("tree of " + text, Check.tree(reader, 0, 1), want);
        Check.due("written of " + text, Check.write(reader, 0, 1), text);
    }

    private static void noneOneAndMore() {
        item("level A;", "1@0(21@6)");
        item("level A>A;", "1@0(21@6 21@8)");
        item("level A>A,A;", "1@0(21@6 21@8 21@10)");
        item("fun f(f[1])[1]=f;", "3@0(21@4 4@5 5@6(21@6 20=1@8) 20=1@12 21@15)");
        item("fun f(f[1],f[1])[1]=f;", "3@0(21@4 4@5 5@6(21@6 20=1@8) 5@11(21@11 20=1@13) 20=1@17 21@20)");
        item("in L[1]:L;", "7@0(21@3 20=1@5 18@8(21@8))");
        item("in L[1]:L|L;", "7@0(21@3 20=1@5 18@8(21@8 21@10))");
        item("next{}", "11@0(12@4)");
        item("next{a<=a;}", "11@0(12@4(13@5(21@5 21@8)))");
        item("next{a<=a;a<=a;}", "11@0(12@4(13@5(21@5 21@8) 13@10(21@10 21@13)))");
        item("next{if(a){}}", "11@0(12@4(14@5(21@8 12@10)))");
        item("next{if(a){}else{}}", "11@0(12@4(14@5(21@8 12@10 12@16)))");
        item("next{case(a){0:{}}}", "11@0(12@4(15@5(21@10 16@13(20@13 12@15))))");
        item("next{case(a){0:{}0:{}}}", "11@0(12@4(15@5(21@10 16@13(20@13 12@15) 16@17(20@17 12@19))))");
        item("next{case(a){0:{}default:{}}}", "11@0(12@4(15@5(21@10 16@13(20@13 12@15) 17@17(12@25))))");
        item("wire w={w};", "9@0(21@5 43@7(21@8))");
        item("wire w={w,w};", "9@0(21@5 43@7(21@8 21@10))");
        item("wire w=w(w);", "9@0(21@5 46@7(21@7 47@8 21@9))");
        item("wire w=w(w,w);", "9@0(21@5 46@7(21@7 47@8 21@9 21@11))");
    }

    private static void isEmpty(Subject reader, int tree, String what) {
        Check.due("nodes of " + what, reader.nodes(tree), 1);
        Check.due("tree of " + what, Check.tree(reader, tree, 0), "0@-1");
        Check.due("size of " + what, reader.node(tree, 0, 3), 1);
        Check.due("no part of " + what, reader.part(tree, 0, 0), -1);
        Check.due("no node of " + what, reader.node(tree, 1, 0), -2);
        Check.due("written of " + what, reader.write(tree, 0), 0);
        Check.due("names of " + what, reader.names(), 0);
    }

    private static void textsWithoutItems() {
        String[] texts = {"", " ", "\n", "//", "// wire a=b;", "\t\r\n \n", "//\n//"};
        for (String text : texts) {
            for (int tree = 0; tree < 2; tree++) {
                Subject reader = new Subject();
                Check.due("read of no items", Check.read(reader, tree, text), -1);
                isEmpty(reader, tree, "no items");
            }
        }
    }

    private static void faultInTheFirstItem() {
        String[] texts = {"x", "@", "wire", "wire a", "wire a=b", "wire a=b)", "level A level B;", "next{a<=b;", "1;",
            "fun f[P](a[P])[P]=a", "wire a=" + "(".repeat(60) + "a" + ")".repeat(60) + ";wire a=b;"};
        for (String text : texts) {
            for (int tree = 0; tree < 2; tree++) {
                Subject reader = new Subject();
                Check.due("read of " + text, Check.read(reader, tree, text) >= 0, true);
                isEmpty(reader, tree, text);
            }
        }
    }

    private static void faultBehindWholeItems() {
        String[] items = {"level A;", "wire b=A+A;", "next{b<=A;if(b){}}", "fun f[P](a[P])[P]=a;", "in c[1]:A;"};
        String[] faults = {"x", "@", ")", "wire", "wire z", "wire z=y", "wire z=y x;", "next{z<=y;", "else{}", "; wire z=y;",
            "wire z=" + "(".repeat(60) + "y" + ")".repeat(60) + ";", "level " + "z".repeat(31) + ";"};
        StringBuilder whole = new StringBuilder();
        for (int count = 1; count <= items.length; count++) {
            whole.append(items[count - 1]);
            for (String fault : faults) {
                Subject reader = new Subject();
                Check.due("read of the items", Check.read(reader, 0, whole.toString()), -1);
                int names = reader.names();
                int place = Check.read(reader, 1, whole + fault);
                Check.due("a fault behind " + count, place >= whole.length() && place <= whole.length() + fault.length(), true);
                Check.due("the items before it: " + whole + fault, reader.same(), true);
                Check.due("with the same places", Check.tree(reader, 1, 0), Check.tree(reader, 0, 0));
                Check.due("how many", reader.node(1, 0, 4), count);
                Check.due("how many nodes", reader.nodes(1), reader.node(1, 0, 3));
                Check.due("no item behind them", reader.part(1, 0, count), -1);
                Check.due("no name of the item with the fault", reader.names(), names);
                Check.due("written", Check.write(reader, 1, 0), whole.toString());
            }
        }
        Subject reader = new Subject();
        Check.due("whole items behind a fault", Check.read(reader, 0, "level A;level ;level B;"), 14);
        Check.due("are not read", Check.tree(reader, 0, 0), "0@-1(1@0(21@6))");
        Check.due("nor are their names", Check.allNames(reader), "A ");
    }

    /** A name that was read first in the item with a fault does not count, even if it was read often; one read before does. */
    private static void namesOfAnItemWithAFault() {
        Subject reader = new Subject();
        Check.due("read", Check.read(reader, 0, "level A;wire b=A+c+b"), 20);
        Check.due("names", Check.allNames(reader), "A ");
        Check.due("read", Check.read(reader, 1, "wire c=b;wire d=A"), 17);
        Check.due("numbers are given anew", Check.allNames(reader), "A c b ");
        Check.due("number of c", reader.node(1, 2, 2), 1);
        Check.due("number of b", reader.node(1, 3, 2), 2);
        Check.due("the fault is the name itself", Check.read(reader, 1, "level B;q"), 8);
        Check.due("names", Check.allNames(reader), "A c b B ");
        Check.due("the fault is right behind the item", Check.read(reader, 1, "level C;level D;;"), 16);
        Check.due("names", Check.allNames(reader), "A c b B C D ");
        Check.due("the item is cut off before its last token", Check.read(reader, 1, "level E>F,G,H"), 13);
        Check.due("names", Check.allNames(reader), "A c b B C D ");
        Check.due("and is whole", Check.read(reader, 1, "level E>F,G,H;"), -1);
        Check.due("names", Check.allNames(reader), "A c b B C D E F G H ");
    }

    private static void expr(String text, String want) {
        Check.due("tree of " + text, Check.tree(Check.reader("wire w=" + text + ";"), 0, 3), want);
    }

    private static void sum(String text, String want) {
        Check.due("tree of " + text, Check.tree(Check.reader("const c=" + text + ";"), 0, 3), want);
    }

    private static void rowsOfOnePart() {
        expr("w", "21@7");
        expr("(w)", "21@8");
        expr("w+w", "22@7(21@7 35@8(21@9))");
        expr("w+w+w", "22@7(21@7 35@8(21@9) 35@10(21@11))");
        expr("-w", "41@7(21@8)");
        expr("(((-(w))))", "41@10(21@12)");
        sum("0", "20@8");
        sum("(((0)))", "20@11");
        sum("0*0", "22@8(20@8 37@9(20@10))");
        sum("0*0*0", "22@8(20@8 37@9(20@10) 37@11(20@12))");
    }

    /** A row, and a case, lie at their first token, be it a bracket; what is in brackets lies in them; a choice at its ?. */
    private static void placesAtBrackets() {
        expr("(w)+w", "22@7(21@8 35@10(21@11))");
        expr("((w)+w)", "22@8(21@9 35@11(21@12))");
        expr("((w))*w+w", "22@7(22@7(21@9 37@12(21@13)) 35@14(21@15))");
        expr("w+((w)*w)", "22@7(21@7 35@8(22@10(21@11 37@13(21@14))))");
        expr("(w)?w:w", "23@10(21@8 21@11 21@13)");
        expr("((w)?w:w)", "23@11(21@9 21@12 21@14)");
        expr("(w?w:w)+w", "22@7(23@9(21@8 21@10 21@12) 35@14(21@15))");
        sum("(0)+0", "22@8(20@9 35@11(20@12))");
        item("next{case(a){0:{}0+0:{}}}", "11@0(12@4(15@5(21@10 16@13(20@13 12@15) 16@17(22@17(20@17 35@18(20@19)) 12@21))))");
        Subject reader = Check.reader("next{case(a){( 0):{}((0)+0):{}}}");
        Check.due("16 at a bracket", reader.node(0, 5, 1), 13);
        Check.due("its SUM in the bracket", reader.node(0, 6, 1), 15);
        Check.due("16 at two brackets", reader.node(0, 8, 1), 20);
        Check.due("its SUM in the outer one", reader.node(0, 9, 1), 21);
        Check.due("the first part in both", reader.node(0, 10, 1), 22);
    }

    /** A node that is written by itself is written as it stands, without brackets round it. */
    private static void writtenAlone() {
        Subject reader = Check.reader("wire w=-(a|b)*((c?d:e)?(f):g);");
        String[] wants = {"wire w=-(a|b)*((c?d:e)?f:g);", "wire w=-(a|b)*((c?d:e)?f:g);", "w", "-(a|b)*((c?d:e)?f:g)", "-(a|b)", "a|b",
            "a", "|b", "b", "*((c?d:e)?f:g)", "(c?d:e)?f:g", "c?d:e", "c", "d", "e", "f", "g"};
        Check.due("nodes", reader.nodes(0), wants.length);
        for (int k = 0; k < wants.length; k++) {
            Check.due("node " + k, Check.write(reader, 0, k), wants[k]);
        }
        Check.due("no node behind the last", reader.write(0, wants.length), -1);
        Check.due("the last one is still written", Check.written(reader), "g");
    }
}
