/** The greatest texts: of 8000 bytes, with the most nodes, parts, rows and calls that stand open. */
public final class LimitsTest {
    private static final String FULL_ROW = "a*b+a*b<a*b+a*b&a*b+a*b<a*b+a*b^a*b+a*b<a*b+a*b&a*b+a*b<a*b+a*b";

    public static void main(String[] args) {
        roundTrip(filled("wire w=" + FULL_ROW, "|" + FULL_ROW, ";"));
        roundTrip(filled("wire w=a", "+a", ";"));
        roundTrip(filled("wire w={a", ",-a", "};"));
        roundTrip(filled("wire w=f(a", ",f(a)", ");"));
        roundTrip(filled("const c=1*2", "+1*2", ";"));
        roundTrip(filled("fun f(a[1]", ",a[1]", ")[1]=a;"));
        roundTrip(filled("fun f[a", ",a", "](a[1])[1]=a;"));
        roundTrip(filled("next{case(a){0:{}", "0:{}", "}}"));
        roundTrip(filled("next{", "a<=b;", "}"));
        roundTrip(filled("in a[1]:L", "|L", ";"));
        roundTrip(filled("", "level A;", ""));
        roundTrip(filled("", "next{}", ""));
        roundTrip(filled("const c=", " ", "1;"));
        deepAndWide();
        openCalls();
        longFaults();
        namesWithoutEnd();
        Check.end();
    }

    /** A text of about 8000 bytes, with as many of the middle as fit. */
    private static String filled(String before, String middle, String behind) {
        int count = (8000 - before.length() - behind.length()) / middle.length();
        return before + middle.repeat(count) + behind;
    }

    private static void roundTrip(String text) {
        String name = text.substring(0, 30);
        Subject reader = Check.reader(text);
        int nodes = reader.nodes(0);
        int count = 0;
        for (int k = 0; k < nodes; k++) {
            count += reader.node(0, k, 4);
            if (k > 0 && (reader.whole(0, k) < 0 || reader.whole(0, k) >= k)) {
                Check.fail("whole of " + k + " of " + name);
            }
        }
        Check.due("each node but one is a part of " + name, count, nodes - 1);
        int length = reader.write(0, 0);
        Check.due("bytes of " + name, length > 0 && length <= text.length(), true);
        Check.due("again of " + name, reader.again(), length);
        Check.due("read again of " + name, reader.read(1, -1), -1);
        Check.due("same of " + name, reader.same(), true);
    }

    /** Every level has every way of binding open, 60 times, and the tree is some thousand nodes deep. */
    private static void deepAndWide() {
        String open = "a?a:a|b^c&d==e<f<<g+h*(";
        roundTrip("wire w=" + "a|b^c&d==e<f<<g+h*(".repeat(59) + "a|b^c&d==e<f<<g+h*i" + ")".repeat(59) + ";");
        roundTrip("wire w=" + "(".repeat(59) + "a" + "*b+c<<d<e==f&g^h|i)".repeat(59) + ";");
        roundTrip("wire w=" + open.repeat(29) + "a|b^c&d==e<f<<g+h*i" + ")".repeat(29) + ";");
        roundTrip("const c=" + "1+2*(".repeat(59) + "1" + ")".repeat(59) + ";");
    }

    /** The most calls stand open in these; none is refused. */
    private static void openCalls() {
        roundTrip("wire w=" + "f[1](".repeat(59) + "a" + ")".repeat(59) + ";");
        roundTrip("next{" + "case(a){0:{".repeat(59) + "}}".repeat(59) + "}");
        roundTrip("next{" + "case(a){0:{".repeat(20) + "a<=" + "f[1](".repeat(38) + "b" + ")".repeat(38) + ";"
            + "}}".repeat(20) + "}");
        Check.due("too deep", Check.read(new Subject(), 0, "wire w=" + "f(".repeat(3900)), 7 + 120);
    }

    private static void longFaults() {
        Check.due("8000 tokens", Check.read(new Subject(), 0, ";".repeat(8000)), 0);
        Check.due("8000 tokens behind each other", Check.read(new Subject(), 0, "(".repeat(8000)), 0);

        String digits = "const c=" + "9".repeat(7991) + ";";
        Check.due("8000 digits", Check.read(new Subject(), 0, digits), 8);
        String letters = "level " + "x".repeat(7993) + ";";
        Check.due("8000 letters", Check.read(new Subject(), 0, letters), 6);
        String items = filled("", "level A;", "");
        Subject reader = new Subject();
        Check.due("a fault at the end", Check.read(reader, 0, items.substring(0, 7999)), 7999);
        Check.due("the items before it", reader.nodes(0), 1 + 2 * 999);
        reader = new Subject();
        Check.due("8000 signs", Check.read(reader, 0, "wire w=" + "a+".repeat(3996) + ";"), 7999);
        Check.due("no items before it", reader.nodes(0), 1);
    }

    /** More names than 512 calls can bring: what is answered is free by then, but nothing may be thrown. */
    private static void namesWithoutEnd() {
        Subject reader = Subject.withoutEnd();
        for (int i = 0; i < 7000; i += 10) {
            StringBuilder text = new StringBuilder("level A>B");
            for (int k = 0; k < 10; k++) {
                text.append(",n").append(i + k);
            }
            Check.read(reader, i / 10 % 2, text.append(";wire x=y").append(i).toString());
        }
        reader.write(0, 0);
        Check.due("names are asked for", reader.spelt(reader.names(), 0), -1);
    }
}
